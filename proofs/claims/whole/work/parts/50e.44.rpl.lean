/-! the pure part: the reference's $project, all documents -/
theorem q_fmw {f : q_P → Option q_P} {x : q_P} {r : List q_P} : q_en ((x :: r).filterMap f) = q_ow (f x) ++ q_en (r.filterMap f) := by
  rw [q_fmc]
  cases f x <;> rfl
theorem r_p24 {fu k g d d2 P : Nat} {dcs frm : Nat → Int32} {K : Int32 → Int32 → Int32 → Int32 → Int32 → Int32 → Bool → Bool → (Nat → Int32) → (Nat → Int32) → (Nat → Int32) → Option (Int32 × Int32 × Int32 × Int32 × Int32 × Bool × Bool × (Nat → Int32) × (Nat → Int32) × (Nat → Int32))} {p0 x3 frs frt : Int32} {tgr : Bool} {ffr fsz : Nat → Int32} {ds : List q_P} (hf : 2500 ≤ fu) (hg : 80000 ≤ g) (hg2 : g ≤ 120000) (hk : k < 200) (hfr : frm k = iN P)
    (hd : q_op d2 ds) (hdd : q_ok (d2 + 1) 3 (q_bx ds)) (hd2 : d2 < 20) (hP : P + (q_bx ds).length ≤ 80000) (hv : (q_bx ds).length ≤ 2000) :
    ∀ (ps : List q_P) (e n : Nat) (st0 : Nat → Int32) (w : List UInt8) (r : q_R), sm st0 e (q_en ps ++ [0]) → q_op d ps → (∀ x ∈ ps, q_xf x.1 x.2.2 = 0) → 128100 ≤ e → e + (q_en ps).length < 136400 → (q_en ps).length ≤ 2000 → ps.length < n → sm st0 P (q_bx ds) → q_W g 2001 g false st0 ([0, 0, 0, 0] ++ w) r →
    ∃ r' st1, tw_MO_project_h24 fu dcs frm K p0 (iN k) x3 n (iN (q_pt e ps)) frs frt (iN r.1) (iN g) (iN 2001) r.2.1 tgr r.2.2 ffr fsz = K (iN 0) frs frt (iN r'.1) (iN g) (iN 2001) r'.2.1 tgr r'.2.2 ffr fsz ∧ (∀ j, j < 124000 ∨ 128100 ≤ j → st1 j = st0 j) ∧
      q_W g 2001 g false st1 ([0, 0, 0, 0] ++ (w ++ q_en (ps.filterMap (q_pe1 ds (q_bx ds))))) r' := by
  intro ps
  induction ps with
  | nil =>
    intro e n st0 w r _ _ _ _ _ _ hn _ hr
    obtain ⟨n, rfl⟩ : ∃ m, n = m + 1 := ⟨n - 1, by omega⟩
    refine ⟨r, st0, rfl, fun _ _ => rfl, ?_⟩
    rw [List.filterMap_nil, show q_en [] = [] from rfl, List.append_nil]
    exact hr
  | cons x ps ih =>
    intro e n st0 w r hs ho hx he hp hl hn hD hr
    obtain ⟨n, rfl⟩ : ∃ m, n = m + 1 := ⟨n - 1, by omega⟩
    obtain ⟨hm, hb⟩ := ho x List.mem_cons_self
    have h1 := (sm_en hs).1
    have h2 := (sm_en hs).2
    have e1 := q_e1l x
    have e2 := q_enl x ps
    rw [List.length_cons] at hn
    unfold tw_MO_project_h24
    rw [q_ptc, if_neg (by simp (disch := omega) only [i_0, iN_a, iN_c, iN_le, iN_lt, iN_eq, iN_i]; omega)]
    obtain ⟨r1, st1, k1, k2, k3⟩ := r_p29 (fu := fu) (e := e) (k := k) (dcs := dcs) (frm := frm) (x1 := p0) (x3 := x3) (frs := frs) (frt := frt) (tgr := tgr) (ffr := ffr) (fsz := fsz) (K := fun (frs_19 : Int32) (frt_19 : Int32) (top_19 : Int32) (bgn_19 : Int32) (mst_19 : Int32) (ovr_19 : Bool) (tgr_19 : Bool) (st_19 : Nat → Int32) (ffr_19 : Nat → Int32) (fsz_19 : Nat → Int32) =>
          ob1 (tw_MO_nextOf fu st_19 (iN e)) (fun r_20 =>
            tw_MO_project_h24 fu dcs frm K p0 (iN k) x3 n r_20 frs_19 frt_19 top_19 bgn_19 mst_19 ovr_19 tgr_19 st_19 ffr_19 fsz_19)) hf hg hg2 hr hk hfr h1 hm hb (by omega) he (by omega) (hx x List.mem_cons_self) hd hdd hd2 hD hP hv
    have hs1 : sm st1 e (q_en (x :: ps) ++ [0]) := sm_fr hs (fun j u v => k2 j (by omega))
    have hs2 : sm r1.2.2 e (q_en (x :: ps) ++ [0]) := sm_fr hs1 (fun j u v => k3.1 j (by omega))
    obtain ⟨r', st2, t1, t2, t3⟩ := ih (e + (q_e1 x).length) n st1 (w ++ q_ow (q_pe1 ds (q_bx ds) x)) r1 (sm_en hs1).2 (fun y hy => ho y (List.mem_cons_of_mem _ hy)) (fun y hy => hx y (List.mem_cons_of_mem _ hy)) (by omega) (by omega) (by omega) (by omega) (sm_fr hD (fun j u v => k2 j (by omega))) k3
    refine ⟨r', st2, ?_, fun j hj => (t2 j hj).trans (k2 j hj), ?_⟩
    · rw [k1, r_no hs2 ho hp (by omega), obs1]
      exact t1
    · rw [q_fmw, ← List.append_assoc w]
      exact t3
theorem r_pj_h {fu p d : Nat} {dcs tot frm siz : Nat → Int32} {K : Int32 → Int32 → Int32 → Int32 → Int32 → Int32 → Bool → Bool → (Nat → Int32) → (Nat → Int32) → (Nat → Int32) → Option (Int32 × Int32 × Int32 × Int32 × Int32 × Bool × Bool × (Nat → Int32) × (Nat → Int32) × (Nat → Int32))} {F : List (List UInt8)} {ps : List q_P} (hf : 2500 ≤ fu) (hp : 128100 ≤ p) (hp2 : p + (q_bx ps).length ≤ 136400) (hl : (q_bx ps).length ≤ 2000) (ho : q_op d ps) (hnk : q_nk 3 ps) (hd16 : d ≤ 16) (hx : ∀ x ∈ ps, q_xf x.1 x.2.2 = 0) :
    ∀ (m i n : Nat) (frs frt top bgn mst : Int32) (ovr tgr : Bool) (st ffr fsz : Nat → Int32) (N : Option (List (List UInt8))), i + m = F.length → m < n → sm st p (q_bx ps) → q_rb st 0 dcs tot frm siz F → q_fr st frs frt top tgr ffr fsz N →
    ∃ fs ft tp bg ms ov tg st' ff fz, tw_MO_project_h2 fu dcs frm K (iN p) n (iN i) frs frt top bgn mst ovr tgr st ffr fsz = K (iN F.length) fs ft tp bg ms ov tg st' ff fz ∧ q_fr st' fs ft tp tg ff fz (q_run N ((F.drop i).map (q_pjD ps))) ∧ (∀ j, j < 80000 ∨ 128100 ≤ j → st' j = st j) := by
  intro m
  induction m with
  | zero =>
    intro i n frs frt top bgn mst ovr tgr st ffr fsz N hi hn hs hb h
    obtain ⟨n, rfl⟩ : ∃ m, n = m + 1 := ⟨n - 1, by omega⟩
    have : i = F.length := by omega
    subst this
    unfold tw_MO_project_h2
    rw [show dcs (0 : Int32).toNatClampNeg = iN F.length from hb.1, if_pos (Int32.le_refl _), List.drop_length]
    exact ⟨_, _, _, _, _, _, _, _, _, _, rfl, h, fun _ _ => rfl⟩
  | succ m ih =>
    intro i n frs frt top bgn mst ovr tgr st ffr fsz N hi hn hs hb h
    obtain ⟨n, rfl⟩ : ∃ m, n = m + 1 := ⟨n - 1, by omega⟩
    have il : i < F.length := by omega
    have F1 := hb.2.2.2.2.1
    have F2 := hb.2.2.2.2.2.1
    have bl := q_bxl ps
    have pl := q_psl ps
    have hk : F[i]? = some F[i] := List.getElem?_eq_getElem il
    obtain ⟨d1, d2, d3, d4⟩ := q_rbd hb hk
    obtain ⟨f1, f2⟩ := hb.2.2.1 i _ hk
    rw [List.drop_eq_getElem_cons il, List.map_cons, q_runc]
    generalize F[i] = D at *
    simp only [Nat.mul_zero, Nat.zero_add] at f1 f2 d1 d4
    obtain ⟨e, ds, he, rfl, o1, o2⟩ := q_okd d2 (Or.inl rfl)
    obtain rfl : e = 15 := by omega
    obtain ⟨l1, l2⟩ := q_tpl h
    obtain ⟨r, r1, r2⟩ := r_bd (fu := fu) (bgn := bgn) (mst := mst) (ovr := ovr) (by omega) h
    have hs1 : sm r.2.2 p (q_bx ps) := sm_fr hs (fun j u v => r2.1 j (by omega))
    unfold tw_MO_project_h2
    rw [show dcs (0 : Int32).toNatClampNeg = iN F.length from hb.1, if_neg (by simp (disch := omega) only [iN_a, iN_c, iN_le, iN_lt, iN_eq, iN_i]; omega), r1, obs6, r_fo hs1 ho (by omega), obs1]
    obtain ⟨r', st1, k1, k2, k3⟩ := r_p24 (fu := fu) (k := i) (g := q_tp N) (dcs := dcs) (frm := frm) (p0 := iN p) (x3 := iN (q_tp N)) (frs := frs) (frt := frt) (tgr := tgr) (ffr := ffr) (fsz := fsz) (K := fun (x4_21 : Int32) (frs_21 : Int32) (frt_21 : Int32) (top_21 : Int32) (bgn_21 : Int32) (mst_21 : Int32) (ovr_21 : Bool) (tgr_21 : Bool) (st_21 : Nat → Int32) (ffr_21 : Nat → Int32) (fsz_21 : Nat → Int32) =>
          ob8 (tw_MO_endDocument fu bgn_21 mst_21 frs_21 frt_21 top_21 ovr_21 tgr_21 st_21 ffr_21 fsz_21 (iN (q_tp N))) (fun frs_22 frt_22 top_22 ovr_22 tgr_22 st_22 ffr_22 fsz_22 =>
            tw_MO_project_h2 fu dcs frm K (iN p) n (iN i + 1) frs_22 frt_22 top_22 bgn_21 mst_21 ovr_22 tgr_22 st_22 ffr_22 fsz_22)) hf l1 l2 (by omega) f1 o1 d2 (by omega) (by omega) d3 ps (p + 4) fu st [] r (sm_ap.1 hs).2 ho hx (by omega) (by omega) (by omega) (by omega) d1 (by rw [List.append_nil]; exact r2)
    rw [List.nil_append] at k3
    have ok := q_pjo ho hnk (by omega) o1 d2 d3
    have pd : q_pjD ps (q_bx ds) = q_bx (ps.filterMap (q_pe1 ds (q_bx ds))) := by
      unfold q_pjD
      rw [q_psb o1 (by omega)]
    rw [pd] at ok ⊢
    have h1 : q_fr st1 frs frt top tgr ffr fsz N := q_frf h (fun j u v => k2 j (by omega))
    obtain ⟨fs, ft, tp, ov, tg, st', ff, fz, e1, e2, e3⟩ := r_ed (fu := fu) hf h1 k3 ok (by omega)
    have fr : ∀ j, j < 80000 ∨ 128100 ≤ j → st' j = st j := fun j hj => (e3 j (by omega)).trans (k2 j (by omega))
    obtain ⟨fs2, ft2, tp2, bg2, ms2, ov2, tg2, st2, ff2, fz2, g1, g2, g3⟩ := ih (i + 1) n fs ft tp (iN (q_tp N)) (iN 2001) ov tg st' ff fz (q_more N (q_bx (ps.filterMap (q_pe1 ds (q_bx ds))))) (by omega) (by omega) (sm_fr hs (fun j u v => fr j (by omega))) (q_rbf hb (fun j u v => fr j (by omega))) e2
    refine ⟨fs2, ft2, tp2, bg2, ms2, ov2, tg2, st2, ff2, fz2, ?_, g2, fun j hj => (g3 j hj).trans (fr j hj)⟩
    rw [k1, e1, obs8, show iN i + 1 = iN (i + 1) from iN_a i 1]
    exact g1
theorem r_pjA {fu p d : Nat} {dcs tot frm siz ffr fsz st : Nat → Int32} {frs frt top bgn mst : Int32} {ovr tgr : Bool} {F : List (List UInt8)} {ps : List q_P} (hf : 2500 ≤ fu) (hp : 128100 ≤ p) (hp2 : p + (q_bx ps).length ≤ 136400) (hl : (q_bx ps).length ≤ 2000) (ho : q_op d ps) (hnk : q_nk 3 ps) (hd16 : d ≤ 16) (hx : ∀ x ∈ ps, q_xf x.1 x.2.2 = 0) (hs : sm st p (q_bx ps)) (hb : q_rb st 0 dcs tot frm siz F) (h : q_fr st frs frt top tgr ffr fsz (some [])) :
    ∃ fs ft tp bg ms ov tg st' ff fz, tw_MO_project fu dcs frm frs frt top bgn mst ovr tgr st ffr fsz (iN p) = some (fs, ft, tp, bg, ms, ov, tg, st', ff, fz) ∧ q_fr st' fs ft tp tg ff fz (q_run (some []) (F.map (q_pjD ps))) ∧ (∀ j, j < 80000 ∨ 128100 ≤ j → st' j = st j) := by
  have F1 := hb.2.2.2.2.1
  obtain ⟨fs, ft, tp, bg, ms, ov, tg, st', ff, fz, g1, g2, g3⟩ := r_pj_h (fu := fu) (dcs := dcs) (tot := tot) (frm := frm) (siz := siz) (K := fun (x2_23 : Int32) (frs_23 : Int32) (frt_23 : Int32) (top_23 : Int32) (bgn_23 : Int32) (mst_23 : Int32) (ovr_23 : Bool) (tgr_23 : Bool) (st_23 : Nat → Int32) (ffr_23 : Nat → Int32) (fsz_23 : Nat → Int32) =>
      some (frs_23, frt_23, top_23, bgn_23, mst_23, ovr_23, tgr_23, st_23, ffr_23, fsz_23)) hf hp hp2 hl ho hnk hd16 hx F.length 0 fu frs frt top bgn mst ovr tgr st ffr fsz (some []) (by omega) (by omega) hs hb h
  rw [List.drop_zero] at g2
  exact ⟨fs, ft, tp, bg, ms, ov, tg, st', ff, fz, g1, g2, g3⟩
