/-! the pure part: what the reference does at a stage -/
abbrev q_DT := Int32 × Int32 × Int32 × Int32 × Int32 × Int32 × Bool × Bool × Int32 × Int32 × Int64 × Int64 × Bool × (Nat → Int32) × (Nat → Int32) × (Nat → Int32) × (Nat → Int32) × (Nat → Int32) × (Nat → Int32) × (Nat → Int32) × (Nat → Int32) × (Nat → Int32) × (Nat → Int32) × (Nat → Int32) × (Nat → Int32) × (Nat → Int32) × (Nat → Int32) × (Nat → Int32)
abbrev q_DK2 := Int32 → Int32 → Int32 → Int32 → Int32 → Int32 → Bool → Bool → Int32 → Int32 → Int64 → Int64 → Bool → (Nat → Int32) → (Nat → Int32) → (Nat → Int32) → (Nat → Int32) → (Nat → Int32) → (Nat → Int32) → (Nat → Int32) → (Nat → Int32) → (Nat → Int32) → (Nat → Int32) → (Nat → Int32) → (Nat → Int32) → (Nat → Int32) → (Nat → Int32) → (Nat → Int32) → Option q_DT
abbrev q_DK := Int32 → Int32 → Int32 → Int32 → Int32 → Int32 → Bool → Bool → Int32 → Int32 → Int64 → Int64 → Bool → (Nat → Int32) → (Nat → Int32) → (Nat → Int32) → (Nat → Int32) → (Nat → Int32) → (Nat → Int32) → (Nat → Int32) → (Nat → Int32) → (Nat → Int32) → (Nat → Int32) → (Nat → Int32) → (Nat → Int32) → (Nat → Int32) → (Nat → Int32) → (Nat → Int32) → Option q_DT
theorem r_r19 {fu d e : Nat} {Q : Option q_DT → Prop} {Kc : q_DK} {frs : Int32} {frt : Int32} {top : Int32} {bgn : Int32} {mst : Int32} {ovr : Bool} {tgr : Bool} {lvs : Int32} {its : Int32} {hgh : Int64} {loo : Int64} {dfl : Bool} {st : Nat → Int32} {dcs : Nat → Int32} {tot : Nat → Int32} {frm : Nat → Int32} {siz : Nat → Int32} {ffr : Nat → Int32} {fsz : Nat → Int32} {lkd : Nat → Int32} {lat : Nat → Int32} {kkd : Nat → Int32} {kat : Nat → Int32} {odr : Nat → Int32} {grp : Nat → Int32} {ikd : Nat → Int32} {iat : Nat → Int32} {F B : List (List UInt8)} {x : q_P} (hf : 60000 ≤ fu) (h : sm st e (q_e1 x)) (hm : (0 : UInt8) ∉ x.2.1) (ho : q_ok d x.1 x.2.2) (hd : d ≤ 16) (he0 : 134400 ≤ e) (he : e + (q_e1 x).length ≤ 136400) (hl : (q_e1 x).length ≤ 2000) (hz : q_flr x = 0) (hb0 : q_rb st 0 dcs tot frm siz F) (hb1 : q_rb st 1 dcs tot frm siz B) (hfr : q_fr st frs frt top tgr ffr fsz (some []))
    (hK : ∀ (frs2 : Int32) (frt2 : Int32) (top2 : Int32) (bgn2 : Int32) (mst2 : Int32) (ovr2 : Bool) (tgr2 : Bool) (lvs2 : Int32) (its2 : Int32) (hgh2 : Int64) (loo2 : Int64) (dfl2 : Bool) (st2 : Nat → Int32) (ffr2 : Nat → Int32) (fsz2 : Nat → Int32) (lkd2 : Nat → Int32) (lat2 : Nat → Int32) (kkd2 : Nat → Int32) (kat2 : Nat → Int32) (odr2 : Nat → Int32) (grp2 : Nat → Int32) (ikd2 : Nat → Int32) (iat2 : Nat → Int32), q_fr st2 frs2 frt2 top2 tgr2 ffr2 fsz2 (q_run (some []) (q_ndo x F B)) → (∀ j, j < 80000 → st2 j = st j) → Q (Kc (iN (q_flt x F)) frs2 frt2 top2 bgn2 mst2 ovr2 tgr2 lvs2 its2 hgh2 loo2 dfl2 st2 dcs tot frm siz ffr2 fsz2 lkd2 lat2 kkd2 kat2 odr2 grp2 ikd2 iat2)) :
    Q (tw_MO_does_r19 fu Kc (iN e) (iN (q_wn x.2.1)) (iN (e + x.2.1.length + 2)) 0 frs frt top bgn mst ovr tgr lvs its hgh loo dfl st dcs tot frm siz ffr fsz lkd lat kkd kat odr grp ikd iat) := by
  have el := q_e1l x
  have s1 := sm_e1 h
  have hv := s1.2.2.2
  have fz := q_flrz (F := F) hz
  have w8 := q_wn8 x.2.1
  have D : x.1 = 3 → ∃ d' ps, x.2.2 = q_bx ps ∧ q_op d' ps ∧ q_ps x.2.2 = ps ∧ q_nk 3 ps ∧ d' ≤ 16 := by
    intro k3
    rw [k3] at ho
    obtain ⟨d', ps, e0, e1, e2, e4⟩ := q_okd ho (Or.inl rfl)
    exact ⟨d', ps, e1, e2, (by rw [e1]; exact q_psb e2 (by rw [← e1]; omega)), e4, by omega⟩
  have L : (0 : Int32) ≤ iN e ∧ iN e < 136400 := by
    simp (disch := omega) only [i_0, i_136400, iN_a, iN_c, iN_le, iN_lt, iN_eq, iN_i]
    omega
  unfold q_flr at hz
  unfold tw_MO_does_r19
  generalize ew : q_wn x.2.1 = w at w8 hz fz
  rcases (show w = 0 ∨ w = 1 ∨ w = 2 ∨ w = 3 ∨ w = 4 ∨ w = 5 ∨ w = 6 ∨ w = 7 by omega) with rfl | rfl | rfl | rfl | rfl | rfl | rfl | rfl
  · cases hz
  · have ne : q_ndo x F B = F.map (q_pjD (q_ps x.2.2)) := by unfold q_ndo; simp only [ew]
    rw [if_neg (fun q => absurd q.1 (by decide))] at fz
    have hz : q_ft1 x.1 x.2.2 = 0 := hz
    unfold q_ft1 at hz
    by_cases k3 : x.1 = 3
    rotate_left
    · rw [if_neg k3] at hz
      cases hz
    rw [if_pos k3] at hz
    obtain ⟨d', ps, e1, e2, e3, e4, e5⟩ := D k3
    rw [ne, e3, fz] at hK
    rw [e3] at hz
    have pz : q_pjf ps = 0 := by
      cases ps with
      | nil => cases hz
      | cons a r => exact hz
    rw [e1] at hv el
    obtain ⟨fs, ft, tp, bg, ms, ov, tg, st', ff, fz2, u1, u2, u3⟩ := r_pjA (fu := fu) (bgn := bgn) (mst := mst) (ovr := ovr) (by omega) (by omega) (by omega) (by omega) e2 e4 e5 (q_pjx pz) hv hb0 hfr
    rw [if_pos (show iN 1 = 1 from rfl), u1]
    exact hK _ _ _ _ _ _ _ _ _ _ _ _ _ _ _ _ _ _ _ _ _ _ _ u2 (fun j q => u3 j (Or.inl q))
  · have ne : q_ndo x F B = F.flatMap (q_uw (q_xs x.2.2)) := by unfold q_ndo; simp only [ew]
    rw [if_neg (fun q => absurd q.1 (by decide))] at fz
    have hz : q_ft2 x.1 x.2.2 = 0 := hz
    unfold q_ft2 at hz
    by_cases c : q_ex x.1 x.2.2 = true
    rotate_left
    · rw [if_neg c] at hz
      cases hz
    rw [if_pos c] at hz
    obtain ⟨_, e1⟩ := q_exp ho c
    have l2 : x.2.2.length = (q_xt x.2.2).length + 6 := by
      conv => lhs; rw [e1]
      rw [q_txl, List.length_cons]
    have s2 := s1.2.2.2
    rw [e1] at s2
    have s3 := sm_ap.1 s2
    rw [q_l4l] at s3
    have s4 : sm st (e + x.2.1.length + 2 + 5) (q_xt x.2.2 ++ [0]) := s3.2.2
    unfold q_xs at ne
    cases hp : q_po (q_xt x.2.2) with
    | none =>
      rw [hp] at hz
      cases hz
    | some xs =>
      obtain ⟨q1, q2, q3, q4⟩ := q_pok hp
      rw [hp] at ne
      have ne : q_ndo x F B = F.flatMap (q_uw xs) := ne
      rw [ne, fz] at hK
      obtain ⟨y, ys, rfl⟩ := List.exists_cons_of_ne_nil q2
      have sq : q_sq st (e + x.2.1.length + 2 + 5) (y :: ys) := by
        intro _
        rw [← q1]
        exact ⟨s4, by omega, by omega, by omega⟩
      obtain ⟨fs, ft, tp, bg, ms, ov, tg, st', ff, fz2, u1, u2, u3⟩ := r_uw (fu := fu) (bgn := bgn) (mst := mst) (ovr := ovr) (by omega) (by omega) q4 q3 sq hb0 hfr
      rw [if_neg (show ¬ iN 2 = 1 by decide), if_pos (show iN 2 = 2 from rfl), show iN (e + x.2.1.length + 2) + 5 = iN (e + x.2.1.length + 2 + 5) from iN_a _ 5, u1]
      exact hK _ _ _ _ _ _ _ _ _ _ _ _ _ _ _ _ _ _ _ _ _ _ _ u2 (fun j q => u3 j (Or.inl q))
  · have ne : q_ndo x F B = q_gds (q_x0 x.2.2) (q_ps x.2.2).tail F := by unfold q_ndo; simp only [ew]
    have hz : q_ft3 x.1 x.2.2 = 0 := hz
    unfold q_ft3 at hz
    by_cases k3 : x.1 = 3
    rotate_left
    · rw [if_neg k3] at hz
      cases hz
    rw [if_pos k3] at hz
    obtain ⟨d', ps, e1, e2, e3, e4, e5⟩ := D k3
    unfold q_x0 at ne fz
    rw [e3] at ne fz hz
    rw [e1] at hv el
    unfold q_gfo at hz
    cases ps with
    | nil => cases hz
    | cons x0 ps =>
      have ne : q_ndo x F B = q_gds x0 ps F := ne
      have fz : q_flt x F = if 3 = 3 ∧ q_hld (q_gk x0 F) F ps = false then 4 else 0 := fz
      have hz : (if x0.2.1 = q_sn 7 then (if q_xf x0.1 x0.2.2 = 0 then q_gff ps else 3) else 2) = 0 := hz
      by_cases z1 : x0.2.1 = q_sn 7
      rotate_left
      · rw [if_neg z1] at hz
        cases hz
      rw [if_pos z1] at hz
      by_cases z2 : q_xf x0.1 x0.2.2 = 0
      rotate_left
      · rw [if_neg z2] at hz
        cases hz
      rw [if_pos z2] at hz
      obtain ⟨fs, ft, tp, bg, ms, ov, tg, its', hgh', loo', dfl', st', ff, fz2, odr', grp', ikd', iat', u1, u2, u3⟩ := r_gr (fu := fu) (frs := frs) (frt := frt) (top := top) (bgn := bgn) (mst := mst) (ovr := ovr) (tgr := tgr) (its := its) (hgh := hgh) (loo := loo) (dfl := dfl) (ffr := ffr) (fsz := fsz) (odr := odr) (grp := grp) (ikd := ikd) (iat := iat) (by omega) e5 e2 e4 (by omega) (by omega) (by omega) z2 hz hv hb0
      rw [if_neg (show ¬ iN 3 = 1 by decide), if_neg (show ¬ iN 3 = 2 by decide), if_pos (show iN 3 = 3 from rfl), u1]
      have fc : (if q_hld (q_gk x0 F) F ps = true then (0 : Int32) else 4) = iN (q_flt x F) := by
        rw [fz]
        cases q_hld (q_gk x0 F) F ps
        · rfl
        · rfl
      rw [fc]
      rw [ne] at hK
      exact hK _ _ _ _ _ _ _ _ _ _ _ _ _ _ _ _ _ _ _ _ _ _ _ u2 (fun j q => u3 j (Or.inl q))
  · have ne : q_ndo x F B = (q_sto F ((q_ps x.2.2).map q_key)).map (fun y => F.getD y []) := by unfold q_ndo; simp only [ew]
    rw [if_neg (fun q => absurd q.1 (by decide))] at fz
    have hz : q_ft4 x.1 x.2.2 = 0 := hz
    unfold q_ft4 at hz
    by_cases k3 : x.1 = 3
    rotate_left
    · rw [if_neg k3] at hz
      cases hz
    rw [if_pos k3] at hz
    obtain ⟨d', ps, e1, e2, e3, e4, e5⟩ := D k3
    rw [e3] at hz ne
    by_cases l4 : 1 ≤ ps.length ∧ ps.length ≤ 4
    rotate_left
    · rw [if_neg l4] at hz
      cases hz
    rw [if_pos l4] at hz
    rw [e1] at hv el
    obtain ⟨fs, ft, tp, bg, ms, ov, tg, lv, st', ff, fz2, lkd', lat', kkd', kat', odr', σ, u1, uσ, u2, u3⟩ := r_sor (fu := fu) (bgn := bgn) (mst := mst) (ovr := ovr) (lvs := lvs) (lkd := lkd) (lat := lat) (kkd := kkd) (kat := kat) (odr := odr) hf hb0 hfr hv e2 (by omega) (by omega) (by omega) l4.1 l4.2 hz
    rw [q_stoe uσ] at ne
    rw [ne, fz] at hK
    rw [if_neg (show ¬ iN 4 = 1 by decide), if_neg (show ¬ iN 4 = 2 by decide), if_neg (show ¬ iN 4 = 3 by decide), if_pos (show iN 4 = 4 from rfl), u1]
    exact hK _ _ _ _ _ _ _ _ _ _ _ _ _ _ _ _ _ _ _ _ _ _ _ u2 (fun j q => u3 j (Or.inl q))
  · have ne : q_ndo x F B = q_sk true ((q_lo x.1 x.2.2).getD 0) F := by unfold q_ndo; simp only [ew]
    rw [if_neg (fun q => absurd q.1 (by decide))] at fz
    have hz : (if (q_lo x.1 x.2.2).isSome = true then 0 else 2) = 0 := hz
    rw [if_neg (show ¬ iN 5 = 1 by decide), if_neg (show ¬ iN 5 = 2 by decide), if_neg (show ¬ iN 5 = 3 by decide), if_neg (show ¬ iN 5 = 4 by decide), if_neg (show ¬ iN 5 = 7 by decide), if_pos L, iN_c (by omega), s1.1]
    cases lo : q_lo x.1 x.2.2 with
    | none =>
      rw [lo] at hz
      cases hz
    | some m =>
      have lq := lo
      unfold q_lo at lq
      by_cases cn : q_cl x.1 = 2 ∧ 0 ≤ (q_nu x.1 x.2.2).toInt
      rotate_left
      · rw [if_neg cn] at lq
        cases lq
      rw [if_pos cn] at lq
      have lq := Option.some.inj lq
      rw [r_num ho (Or.inl cn.1) hv (by omega) (by omega), obs1]
      rw [lo] at ne
      have F2 := hb0.2.2.2.2.1
      have H := fun (Kx : q_DK2) => r_lo_h (fu := fu) (mm := m) (skip := true) (x4 := 0) (X := q_nu x.1 x.2.2) (K := Kx) (lvs := lvs) (its := its) (hgh := hgh) (loo := loo) (dfl := dfl) (lkd := lkd) (lat := lat) (kkd := kkd) (kat := kat) (odr := odr) (grp := grp) (ikd := ikd) (iat := iat) (F := F) (by omega) (by omega) F.length 0 fu frs frt top bgn mst ovr tgr st ffr fsz (some []) (by omega) (by omega) hb0 hfr
      obtain ⟨fs, ft, tp, bg, ms, ov, tg, st', ff, fz2, u1, u2, u3⟩ := H _
      have u1 := u1
      rw [show (if true = true then (5 : Int32) else 6) = iN 5 from rfl, show iN 0 = (0 : Int32) from rfl] at u1
      rw [u1]
      have sk : q_run (some []) (q_ndo x F B) = q_run (some []) (if true = true then F.drop (max 0 m) else (F.take m).drop 0) := by
        rw [ne]
        show q_run (some []) (q_sk true m F) = _
        unfold q_sk
        rw [Nat.zero_max, List.drop_zero]
      rw [fz, sk] at hK
      exact hK _ _ _ _ _ _ _ _ _ _ _ _ _ _ _ _ _ _ _ _ _ _ _ u2 (fun j q => u3 j (Or.inl q))
  · have ne : q_ndo x F B = q_sk false ((q_lo x.1 x.2.2).getD 0) F := by unfold q_ndo; simp only [ew]
    rw [if_neg (fun q => absurd q.1 (by decide))] at fz
    have hz : (if (q_lo x.1 x.2.2).isSome = true then 0 else 2) = 0 := hz
    rw [if_neg (show ¬ iN 6 = 1 by decide), if_neg (show ¬ iN 6 = 2 by decide), if_neg (show ¬ iN 6 = 3 by decide), if_neg (show ¬ iN 6 = 4 by decide), if_neg (show ¬ iN 6 = 7 by decide), if_pos L, iN_c (by omega), s1.1]
    cases lo : q_lo x.1 x.2.2 with
    | none =>
      rw [lo] at hz
      cases hz
    | some m =>
      have lq := lo
      unfold q_lo at lq
      by_cases cn : q_cl x.1 = 2 ∧ 0 ≤ (q_nu x.1 x.2.2).toInt
      rotate_left
      · rw [if_neg cn] at lq
        cases lq
      rw [if_pos cn] at lq
      have lq := Option.some.inj lq
      rw [r_num ho (Or.inl cn.1) hv (by omega) (by omega), obs1]
      rw [lo] at ne
      have F2 := hb0.2.2.2.2.1
      have H := fun (Kx : q_DK2) => r_lo_h (fu := fu) (mm := m) (skip := false) (x4 := 0) (X := q_nu x.1 x.2.2) (K := Kx) (lvs := lvs) (its := its) (hgh := hgh) (loo := loo) (dfl := dfl) (lkd := lkd) (lat := lat) (kkd := kkd) (kat := kat) (odr := odr) (grp := grp) (ikd := ikd) (iat := iat) (F := F) (by omega) (by omega) F.length 0 fu frs frt top bgn mst ovr tgr st ffr fsz (some []) (by omega) (by omega) hb0 hfr
      obtain ⟨fs, ft, tp, bg, ms, ov, tg, st', ff, fz2, u1, u2, u3⟩ := H _
      have u1 := u1
      rw [show (if false = true then (5 : Int32) else 6) = iN 6 from rfl, show iN 0 = (0 : Int32) from rfl] at u1
      rw [u1]
      have sk : q_run (some []) (q_ndo x F B) = q_run (some []) (if false = true then F.drop (max 0 m) else (F.take m).drop 0) := by
        rw [ne]
        show q_run (some []) (q_sk false m F) = _
        unfold q_sk
        rw [Nat.zero_max, List.drop_zero]
      rw [fz, sk] at hK
      exact hK _ _ _ _ _ _ _ _ _ _ _ _ _ _ _ _ _ _ _ _ _ _ _ u2 (fun j q => u3 j (Or.inl q))
  · have ne : q_ndo x F B = q_lks x.2.2 F B := by unfold q_ndo; simp only [ew]
    rw [if_neg (fun q => absurd q.1 (by decide))] at fz
    have hz : q_ft7 x.1 x.2.2 = 0 := hz
    unfold q_ft7 at hz
    by_cases k3 : x.1 = 3
    rotate_left
    · rw [if_neg k3] at hz
      cases hz
    rw [if_pos k3] at hz
    obtain ⟨d', ps, e1, e2, e3, e4, e5⟩ := D k3
    rw [e3] at hz
    rw [e1] at hv el ne
    obtain ⟨fs, ft, tp, bg, ms, ov, tg, lv, st', ff, fz2, lk, la, u1, u2, u3⟩ := r_lk (fu := fu) (bgn := bgn) (mst := mst) (ovr := ovr) (lvs := lvs) (lkd := lkd) (lat := lat) hf hv e2 (by omega) (by omega) (by omega) hz hb0 hb1 hfr
    rw [ne, fz] at hK
    rw [if_neg (show ¬ iN 7 = 1 by decide), if_neg (show ¬ iN 7 = 2 by decide), if_neg (show ¬ iN 7 = 3 by decide), if_neg (show ¬ iN 7 = 4 by decide), if_pos (show iN 7 = 7 from rfl), u1]
    exact hK _ _ _ _ _ _ _ _ _ _ _ _ _ _ _ _ _ _ _ _ _ _ _ u2 (fun j q => u3 j (Or.inl q))
