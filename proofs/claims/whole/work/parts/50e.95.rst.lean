/-! the pure part: the reference's stage -/
abbrev q_D29 := Int32 × Int32 × Int32 × Int32 × Int32 × Int32 × Int32 × Bool × Bool × Int32 × Int32 × Int64 × Int64 × Bool × (Nat → Int32) × (Nat → Int32) × (Nat → Int32) × (Nat → Int32) × (Nat → Int32) × (Nat → Int32) × (Nat → Int32) × (Nat → Int32) × (Nat → Int32) × (Nat → Int32) × (Nat → Int32) × (Nat → Int32) × (Nat → Int32) × (Nat → Int32) × (Nat → Int32)
abbrev q_D29K := Int32 → Int32 → Int32 → Int32 → Int32 → Int32 → Int32 → Bool → Bool → Int32 → Int32 → Int64 → Int64 → Bool → (Nat → Int32) → (Nat → Int32) → (Nat → Int32) → (Nat → Int32) → (Nat → Int32) → (Nat → Int32) → (Nat → Int32) → (Nat → Int32) → (Nat → Int32) → (Nat → Int32) → (Nat → Int32) → (Nat → Int32) → (Nat → Int32) → (Nat → Int32) → (Nat → Int32) → Option q_D29
def q_rg (fl : Nat) (N : Option (List (List UInt8))) (F : List (List UInt8)) : Int32 × List (List UInt8) := if fl = 0 then (match N with | some R => (0, R) | none => (5, F)) else (iN fl, F)
def q_RP (K : List (List UInt8)) (A : Int32 × List (List UInt8)) (X : Option q_DT) : Prop := ∃ (frs : Int32) (frt : Int32) (top : Int32) (bgn : Int32) (mst : Int32) (ovr : Bool) (tgr : Bool) (lvs : Int32) (its : Int32) (hgh : Int64) (loo : Int64) (dfl : Bool) (st : Nat → Int32) (dcs : Nat → Int32) (tot : Nat → Int32) (frm : Nat → Int32) (siz : Nat → Int32) (ffr : Nat → Int32) (fsz : Nat → Int32) (lkd : Nat → Int32) (lat : Nat → Int32) (kkd : Nat → Int32) (kat : Nat → Int32) (odr : Nat → Int32) (grp : Nat → Int32) (ikd : Nat → Int32) (iat : Nat → Int32), X = some (A.1, frs, frt, top, bgn, mst, ovr, tgr, lvs, its, hgh, loo, dfl, st, dcs, tot, frm, siz, ffr, fsz, lkd, lat, kkd, kat, odr, grp, ikd, iat) ∧ q_rb st 0 dcs tot frm siz A.2 ∧ q_rb st 1 dcs tot frm siz K
def q_RS (K : List (List UInt8)) (A : Int32 × List (List UInt8) × List UInt8) (X : Option q_D29) : Prop := ∃ (tpd : Int32) (frs : Int32) (frt : Int32) (top : Int32) (bgn : Int32) (mst : Int32) (ovr : Bool) (tgr : Bool) (lvs : Int32) (its : Int32) (hgh : Int64) (loo : Int64) (dfl : Bool) (st : Nat → Int32) (dcs : Nat → Int32) (tot : Nat → Int32) (frm : Nat → Int32) (siz : Nat → Int32) (ffr : Nat → Int32) (fsz : Nat → Int32) (lkd : Nat → Int32) (lat : Nat → Int32) (kkd : Nat → Int32) (kat : Nat → Int32) (odr : Nat → Int32) (grp : Nat → Int32) (ikd : Nat → Int32) (iat : Nat → Int32), X = some (A.1, tpd, frs, frt, top, bgn, mst, ovr, tgr, lvs, its, hgh, loo, dfl, st, dcs, tot, frm, siz, ffr, fsz, lkd, lat, kkd, kat, odr, grp, ikd, iat) ∧ q_rs2 st dcs tot frm siz tpd A.2.1 K A.2.2
theorem r_doe {fu d e : Nat} {frs : Int32} {frt : Int32} {top : Int32} {bgn : Int32} {mst : Int32} {ovr : Bool} {tgr : Bool} {lvs : Int32} {its : Int32} {hgh : Int64} {loo : Int64} {dfl : Bool} {st : Nat → Int32} {dcs : Nat → Int32} {tot : Nat → Int32} {frm : Nat → Int32} {siz : Nat → Int32} {ffr : Nat → Int32} {fsz : Nat → Int32} {lkd : Nat → Int32} {lat : Nat → Int32} {kkd : Nat → Int32} {kat : Nat → Int32} {odr : Nat → Int32} {grp : Nat → Int32} {ikd : Nat → Int32} {iat : Nat → Int32} {F B : List (List UInt8)} {x : q_P} (hf : 60000 ≤ fu) (h : sm st e (q_e1 x)) (hm : (0 : UInt8) ∉ x.2.1) (ho : q_ok d x.1 x.2.2) (hd : d ≤ 16) (he0 : 134400 ≤ e) (he : e + (q_e1 x).length ≤ 136400) (hl : (q_e1 x).length ≤ 2000) (hz : q_flr x = 0) (hb0 : q_rb st 0 dcs tot frm siz F) (hb1 : q_rb st 1 dcs tot frm siz B) :
    q_RP B (q_rg (q_flt x F) (q_run (some []) (q_ndo x F B)) F) (tw_MO_does fu frs frt top bgn mst ovr tgr lvs its hgh loo dfl st dcs tot frm siz ffr fsz lkd lat kkd kat odr grp ikd iat (iN e)) := by
  have el := q_e1l x
  have f1 := hb0.2.2.2.2.2.1
  have f2 := hb1.2.2.2.2.2.1
  have fl4 := q_fltl x F
  unfold tw_MO_does
  rw [r_so h hm (by omega) (by omega), obs1, r_vo h hm (by omega) (by omega), obs1, (r_ba (fu := fu) (st := st) (ffr := ffr) (fsz := fsz) (frs := frs) (frt := frt) (top := top) (tgr := tgr)).1, obs4]
  refine r_r19 (F := F) (B := B) hf h hm ho hd he0 he hl hz hb0 hb1 (r_ba (fu := fu) (st := st) (ffr := ffr) (fsz := fsz) (frs := frs) (frt := frt) (top := top) (tgr := tgr)).2 ?_
  intro frs2 frt2 top2 bgn2 mst2 ovr2 tgr2 lvs2 its2 hgh2 loo2 dfl2 st2 ffr2 fsz2 lkd2 lat2 kkd2 kat2 odr2 grp2 ikd2 iat2 hfr hst
  have g0 : q_rb st2 0 dcs tot frm siz F := q_rbf hb0 (fun j a c => hst j (by omega))
  have g1 : q_rb st2 1 dcs tot frm siz B := q_rbf hb1 (fun j a c => hst j (by omega))
  generalize q_run (some []) (q_ndo x F B) = N at hfr
  unfold q_rg
  by_cases f0 : q_flt x F = 0
  · rw [f0, if_pos (show (0 : Nat) = 0 from rfl), if_pos (show iN 0 ≤ 0 by decide)]
    obtain ⟨st', dc, to, fr, sz, u1, u2, u3, u4, u5⟩ := r_fin (fu := fu) (dcs := dcs) (tot := tot) (frm := frm) (siz := siz) (by omega) hfr
    rw [u1, obs6]
    cases N with
    | some R => exact ⟨_, _, _, _, _, _, _, _, _, _, _, _, _, _, _, _, _, _, _, _, _, _, _, _, _, _, _, rfl, u3 R rfl, u5 B g1⟩
    | none =>
      obtain ⟨rfl, rfl, rfl, rfl, rfl⟩ := u4 rfl
      exact ⟨_, _, _, _, _, _, _, _, _, _, _, _, _, _, _, _, _, _, _, _, _, _, _, _, _, _, _, rfl, g0, g1⟩
  · rw [if_neg f0, if_neg (show ¬ iN (q_flt x F) ≤ 0 by simp (disch := omega) only [i_0, iN_a, iN_c, iN_le, iN_lt, iN_eq, iN_i]; omega)]
    exact ⟨_, _, _, _, _, _, _, _, _, _, _, _, _, _, _, _, _, _, _, _, _, _, _, _, _, _, _, rfl, g0, g1⟩
theorem r_h32 {fu : Nat} {Kc : q_D29K} {tpd : Int32} {frs : Int32} {frt : Int32} {top : Int32} {bgn : Int32} {mst : Int32} {ovr : Bool} {tgr : Bool} {lvs : Int32} {its : Int32} {hgh : Int64} {loo : Int64} {dfl : Bool} {dcs : Nat → Int32} {tot : Nat → Int32} {frm : Nat → Int32} {siz : Nat → Int32} {ffr : Nat → Int32} {fsz : Nat → Int32} {lkd : Nat → Int32} {lat : Nat → Int32} {kkd : Nat → Int32} {kat : Nat → Int32} {odr : Nat → Int32} {grp : Nat → Int32} {ikd : Nat → Int32} {iat : Nat → Int32} :
    ∀ (r : List UInt8) (i n : Nat) (st : Nat → Int32), sm st (132400 + i) r → r.length < n → i + r.length ≤ 2000 →
    ∃ st', tw_MO_stage_h32 fu Kc (iN (i + r.length)) n (iN i) tpd frs frt top bgn mst ovr tgr lvs its hgh loo dfl st dcs tot frm siz ffr fsz lkd lat kkd kat odr grp ikd iat = Kc (iN (i + r.length)) tpd frs frt top bgn mst ovr tgr lvs its hgh loo dfl st' dcs tot frm siz ffr fsz lkd lat kkd kat odr grp ikd iat ∧ sm st' (134400 + i) r ∧ (∀ j, j < 134400 + i ∨ 134400 + i + r.length ≤ j → st' j = st j) := by
  intro r
  induction r with
  | nil =>
    intro i n st h hn h2
    obtain ⟨n, rfl⟩ : ∃ m, n = m + 1 := ⟨n - 1, by simp at hn; omega⟩
    unfold tw_MO_stage_h32
    rw [if_pos (show iN (i + [].length) ≤ iN i from Int32.le_refl _)]
    exact ⟨st, rfl, trivial, fun _ _ => rfl⟩
  | cons y r ih =>
    intro i n st h hn h2
    rw [List.length_cons] at hn h2
    obtain ⟨n, rfl⟩ : ∃ m, n = m + 1 := ⟨n - 1, by omega⟩
    obtain ⟨h0, h1⟩ := h
    unfold tw_MO_stage_h32
    rw [List.length_cons, if_neg (by simp (disch := omega) only [iN_a, iN_c, iN_le, iN_lt, iN_eq, iN_i]; omega), show (132400 : Int32) + iN i = iN (132400 + i) from iN_a 132400 i, show (134400 : Int32) + iN i = iN (134400 + i) from iN_a 134400 i, if_pos (by simp (disch := omega) only [i_0, i_136400, iN_a, iN_c, iN_le, iN_lt, iN_eq, iN_i]; omega), if_pos (by simp (disch := omega) only [i_0, i_136400, iN_a, iN_c, iN_le, iN_lt, iN_eq, iN_i]; omega), iN_c (by omega), iN_c (by omega), show iN i + 1 = iN (i + 1) from iN_a i 1, h0, show i + (r.length + 1) = i + 1 + r.length by omega]
    obtain ⟨st', e1, e2, e3⟩ := ih (i + 1) n (upd st (134400 + i) (iN y.toNat)) (sm_fr h1 (fun j u v => by show (if j = 134400 + i then _ else st j) = _; rw [if_neg (by omega)])) (by omega) (by omega)
    refine ⟨st', e1, ⟨?_, e2⟩, fun j hj => ?_⟩
    · rw [e3 _ (by omega)]
      show (if 134400 + i = 134400 + i then _ else _) = _
      rw [if_pos rfl]
    · rw [e3 j (by omega)]
      show (if j = 134400 + i then _ else st j) = _
      rw [if_neg (by omega)]
theorem r_stg {fu : Nat} {tpd : Int32} {frs : Int32} {frt : Int32} {top : Int32} {bgn : Int32} {mst : Int32} {ovr : Bool} {tgr : Bool} {lvs : Int32} {its : Int32} {hgh : Int64} {loo : Int64} {dfl : Bool} {st : Nat → Int32} {dcs : Nat → Int32} {tot : Nat → Int32} {frm : Nat → Int32} {siz : Nat → Int32} {ffr : Nat → Int32} {fsz : Nat → Int32} {lkd : Nat → Int32} {lat : Nat → Int32} {kkd : Nat → Int32} {kat : Nat → Int32} {odr : Nat → Int32} {grp : Nat → Int32} {ikd : Nat → Int32} {iat : Nat → Int32} {F K : List (List UInt8)} {T : List UInt8} (hf : 60000 ≤ fu) (h : q_rs2 st dcs tot frm siz tpd F K T) (n : Int32) :
    q_RS K (q_aG F K T n) (tw_MO_stage fu tpd frs frt top bgn mst ovr tgr lvs its hgh loo dfl st dcs tot frm siz ffr fsz lkd lat kkd kat odr grp ikd iat n) := by
  obtain ⟨h1, h2, h3, h4, h5⟩ := h
  unfold tw_MO_stage q_aG
  by_cases c0 : n < 0
  · rw [if_pos c0, if_pos c0]
    exact ⟨_, _, _, _, _, _, _, _, _, _, _, _, _, _, _, _, _, _, _, _, _, _, _, _, _, _, _, _, rfl, h1, h2, h3, h4, h5⟩
  rw [if_neg c0, if_neg c0]
  obtain ⟨e, l⟩ := q_nn c0
  generalize n.toNatClampNeg = m at e l
  subst e
  by_cases c1 : m ≤ T.length
  rotate_left
  · rw [if_neg (show ¬ iN m ≤ tpd by rw [h4, iN_le l (by omega)]; exact c1), if_neg c1]
    exact ⟨_, _, _, _, _, _, _, _, _, _, _, _, _, _, _, _, _, _, _, _, _, _, _, _, _, _, _, _, rfl, h1, h2, h3, h4, h5⟩
  rw [if_pos (show iN m ≤ tpd by rw [h4, iN_le l (by omega)]; exact c1), if_pos c1]
  have hw := sm_tk m h3
  have wl : (T.take m).length = m := by
    rw [List.length_take]
    omega
  generalize T.take m = w at hw wl
  subst wl
  rw [r_isd (by omega) hw (by omega), obs1]
  cases k : q_kb 16 false w
  · rw [if_pos (show b2i false = 0 from rfl), if_neg (show ¬ false = true by decide)]
    exact ⟨_, _, _, _, _, _, _, _, _, _, _, _, _, _, _, _, _, _, _, _, _, _, _, _, _, _, _, _, rfl, h1, h2, trivial, rfl, Nat.zero_le _⟩
  rw [if_neg (show ¬ b2i true = 0 by decide), if_pos (show true = true from rfl)]
  have ok := q_kbok 16 false w k
  obtain ⟨d, ps, de, we, ho, hnk⟩ := q_okd ok (Or.inl rfl)
  have d15 : d = 15 := by omega
  subst d15 we
  rw [q_psb ho (by omega)]
  have f1 := h1.2.2.2.2.2.1
  have f2 := h2.2.2.2.2.2.1
  have pl2 : (q_bx ps).length ≤ 2000 := by omega
  have H := fun (Kc : q_D29K) => r_h32 (fu := fu) (Kc := Kc) (tpd := 0) (frs := frs) (frt := frt) (top := top) (bgn := bgn) (mst := mst) (ovr := ovr) (tgr := tgr) (lvs := lvs) (its := its) (hgh := hgh) (loo := loo) (dfl := dfl) (dcs := dcs) (tot := tot) (frm := frm) (siz := siz) (ffr := ffr) (fsz := fsz) (lkd := lkd) (lat := lat) (kkd := kkd) (kat := kat) (odr := odr) (grp := grp) (ikd := ikd) (iat := iat) (q_bx ps) 0 fu st hw (by omega) (by omega)
  obtain ⟨st', u1, u2, u3⟩ := H _
  rw [Nat.zero_add, show iN 0 = (0 : Int32) from rfl] at u1
  rw [u1]
  have u2 : sm st' 134400 (q_bx ps) := u2
  have g0 : q_rb st' 0 dcs tot frm siz F := q_rbf h1 (fun j a c => u3 j (by omega))
  have g1 : q_rb st' 1 dcs tot frm siz K := q_rbf h2 (fun j a c => u3 j (by omega))
  try dsimp only
  rw [show (134400 : Int32) = iN 134400 from rfl, r_fo u2 ho (by omega), obs1]
  unfold tw_MO_stage_r70
  rw [show (134400 : Int32) = iN 134400 from rfl, r_co u2 ho (by omega) (by omega) (by omega), obs1]
  have one : ps.length ≠ 1 → q_RS K (q_sg3 (q_flp ps F) (q_nwp ps F K) F) (some (iN 1 - 10, 0, frs, frt, top, bgn, mst, ovr, tgr, lvs, its, hgh, loo, dfl, st', dcs, tot, frm, siz, ffr, fsz, lkd, lat, kkd, kat, odr, grp, ikd, iat)) := by
    intro p1
    have z : q_flp ps F = 1 := by
      unfold q_flp
      match ps, p1 with
      | [], _ => rfl
      | [_], q => exact absurd rfl q
      | _ :: _ :: _, _ => rfl
    rw [z]
    exact ⟨_, _, _, _, _, _, _, _, _, _, _, _, _, _, _, _, _, _, _, _, _, _, _, _, _, _, _, _, rfl, g0, g1, trivial, rfl, Nat.zero_le _⟩
  have pl := q_psl ps
  have bl := q_bxl ps
  by_cases p1 : ps.length = 1
  rotate_left
  · rw [if_neg (show ¬ iN ps.length = 1 by simp (disch := omega) only [i_1, iN_a, iN_c, iN_le, iN_lt, iN_eq, iN_i]; omega)]
    exact one p1
  rw [if_pos (show iN ps.length = 1 by rw [p1]; rfl)]
  clear one
  obtain ⟨x, rfl⟩ := List.length_eq_one_iff.1 p1
  show q_RS K (q_sg3 (q_flt x F) (q_run (some []) (q_ndo x F K)) F) _
  obtain ⟨xm, xo⟩ := ho x List.mem_cons_self
  have el : (q_en [x]).length = (q_e1 x).length := by
    rw [q_enc]
    simp [q_en]
  have h1x : sm st' 134404 (q_e1 x) := (sm_en (show sm st' 134404 (q_en [x] ++ [0]) from (sm_ap.1 u2).2)).1
  rw [q_ptc, show 134400 + 4 = 134404 from rfl, r_sgf (by omega) h1x xm xo (by omega) (by omega) (by omega), obs1]
  have fl4 := q_fltl x F
  by_cases z : q_flr x = 0
  rotate_left
  · have fe := q_flrn (F := F) z
    rw [← fe]
    dsimp only
    rw [if_neg (show ¬ iN (q_flt x F) = 0 by simp (disch := omega) only [i_0, iN_a, iN_c, iN_le, iN_lt, iN_eq, iN_i]; omega), if_neg (show ¬ iN (q_flt x F) ≤ 0 by simp (disch := omega) only [i_0, iN_a, iN_c, iN_le, iN_lt, iN_eq, iN_i]; omega)]
    unfold q_sg3
    rw [if_neg (show ¬ q_flt x F = 0 by omega)]
    exact ⟨_, _, _, _, _, _, _, _, _, _, _, _, _, _, _, _, _, _, _, _, _, _, _, _, _, _, _, _, rfl, g0, g1, trivial, rfl, Nat.zero_le _⟩
  rw [z]
  dsimp only
  rw [if_pos (show iN 0 = 0 from rfl)]
  obtain ⟨frs2, frt2, top2, bgn2, mst2, ovr2, tgr2, lvs2, its2, hgh2, loo2, dfl2, st2, dcs2, tot2, frm2, siz2, ffr2, fsz2, lkd2, lat2, kkd2, kat2, odr2, grp2, ikd2, iat2, v1, v2, v3⟩ := r_doe (fu := fu) (frs := frs) (frt := frt) (top := top) (bgn := bgn) (mst := mst) (ovr := ovr) (tgr := tgr) (lvs := lvs) (its := its) (hgh := hgh) (loo := loo) (dfl := dfl) (st := st') (dcs := dcs) (tot := tot) (frm := frm) (siz := siz) (ffr := ffr) (fsz := fsz) (lkd := lkd) (lat := lat) (kkd := kkd) (kat := kat) (odr := odr) (grp := grp) (ikd := ikd) (iat := iat) hf h1x xm xo (by omega) (by omega) (by omega) (by omega) z g0 g1
  rw [v1]
  generalize q_run (some []) (q_ndo x F K) = N at v2 v3 ⊢
  unfold q_rg at v2 ⊢
  unfold q_sg3
  by_cases f0 : q_flt x F = 0
  · rw [if_pos f0] at v2
    rw [if_pos f0, if_pos f0]
    cases N with
    | some R =>
      have c := v2.1
      refine ⟨0, frs2, frt2, top2, bgn2, mst2, ovr2, tgr2, lvs2, its2, hgh2, loo2, dfl2, st2, dcs2, tot2, frm2, siz2, ffr2, fsz2, lkd2, lat2, kkd2, kat2, odr2, grp2, ikd2, iat2, ?_, v2, v3, trivial, rfl, Nat.zero_le _⟩
      show some (dcs2 0, (0 : Int32), frs2, frt2, top2, bgn2, mst2, ovr2, tgr2, lvs2, its2, hgh2, loo2, dfl2, st2, dcs2, tot2, frm2, siz2, ffr2, fsz2, lkd2, lat2, kkd2, kat2, odr2, grp2, ikd2, iat2) = _
      rw [c]
    | none => exact ⟨_, _, _, _, _, _, _, _, _, _, _, _, _, _, _, _, _, _, _, _, _, _, _, _, _, _, _, _, rfl, v2, v3, trivial, rfl, Nat.zero_le _⟩
  · rw [if_neg f0] at v2
    rw [if_neg f0, if_neg f0]
    refine ⟨0, frs2, frt2, top2, bgn2, mst2, ovr2, tgr2, lvs2, its2, hgh2, loo2, dfl2, st2, dcs2, tot2, frm2, siz2, ffr2, fsz2, lkd2, lat2, kkd2, kat2, odr2, grp2, ikd2, iat2, ?_, v2, v3, trivial, rfl, Nat.zero_le _⟩
    exact if_neg (show ¬ iN (q_flt x F) ≤ 0 by simp (disch := omega) only [i_0, iN_a, iN_c, iN_le, iN_lt, iN_eq, iN_i]; omega)
