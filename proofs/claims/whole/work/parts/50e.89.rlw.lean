/-! the pure part: the reference's $lookup as a whole -/
abbrev q_O13 : Type := Option (Int32 × Int32 × Int32 × Int32 × Int32 × Bool × Bool × Int32 × (Nat → Int32) × (Nat → Int32) × (Nat → Int32) × (Nat → Int32) × (Nat → Int32))
abbrev q_K13 : Type := Int32 → Int32 → Int32 → Int32 → Int32 → Bool → Bool → Int32 → (Nat → Int32) → (Nat → Int32) → (Nat → Int32) → (Nat → Int32) → (Nat → Int32) → q_O13
theorem r_98 {fu G P s2 ey ez d : Nat} {x2 x5 : Int32} {frs frt : Int32} {tgr : Bool} {dcs tot frm siz ffr fsz st0 : Nat → Int32} {C : Bool → Int32 → q_K13} {B xs ys : List (List UInt8)} {D ty tz : List UInt8} {y z : q_P} (hf : 60000 ≤ fu) (hG : 80000 ≤ G) (hG2 : G ≤ 120000) (hb : q_rb st0 1 dcs tot frm siz B) (hyg : ∀ x ∈ ys, q_gs x) (hy0 : ys ≠ []) (hy8 : ys.length ≤ 8) (hsq : q_sq st0 (ey + y.2.1.length + 2 + 4) ys) (hD : sm st0 P D) (hDo : q_ok 16 3 D) (hDl : D.length ≤ 2000) (hP : P + D.length ≤ 80000) (hl1 : (q_l1 (q_lD xs D)).length ≤ 29500)
    (hy : sm st0 ey (q_e1 y)) (hym : (0 : UInt8) ∉ y.2.1) (eyt : y.2.2 = q_tx ty) (hye : ey + (q_e1 y).length ≤ 136400) (hyl : (q_e1 y).length ≤ 2000) (hygg : 128100 ≤ ey) (hz : sm st0 ez (q_e1 z)) (hzm : (0 : UInt8) ∉ z.2.1) (ezt : z.2.2 = q_tx tz) (hze : ez + (q_e1 z).length ≤ 136400) (hzl : (q_e1 z).length ≤ 2000) (hzg : 128100 ≤ ez) :
    ∀ (ps : List q_P) (e n : Nat) (fl : Bool) (lvs : Int32) (lkd lat : Nat → Int32) (pre : List UInt8) (r : q_R), sm st0 e (q_en ps ++ [0]) → q_op d ps → 0 < e → e + (q_en ps).length < 80000 → (q_en ps).length ≤ 2000 → ps.length < n → q_la2 lkd lat 0 P (q_l1 (q_lD xs D)) → q_W G 2001 G false st0 pre r →
    ∃ x9' lvs' lkd' lat' r', tw_MO_lookup_h98 fu dcs frm siz C x2 (iN ey) (iN ez) x5 (iN (q_l1 (q_lD xs D)).length) (iN G) n fl (iN (q_pt e ps)) frs frt (iN r.1) (iN G) (iN 2001) r.2.1 tgr lvs r.2.2 ffr fsz lkd lat = C (fl || ps.any (fun u => decide (u.2.1 = tz))) x9' frs frt (iN r'.1) (iN G) (iN 2001) r'.2.1 tgr lvs' r'.2.2 ffr fsz lkd' lat' ∧ q_la2 lkd' lat' 0 P (q_l1 (q_lD xs D)) ∧ q_W G 2001 G false st0 (pre ++ q_en (ps.map (q_r1 tz (4, q_bx (q_rn 0 (q_mi (fun d => q_blg xs ys D (B.getD d [])) B 0))) none))) r' := by
  have ezl := q_e1l z
  have eyl := q_e1l y
  have lz : z.2.2.length = tz.length + 5 := by rw [ezt, q_txl]
  intro ps
  induction ps with
  | nil =>
    intro e n fl lvs lkd lat pre r _ _ _ _ _ hn hla hr
    obtain ⟨n, rfl⟩ : ∃ m, n = m + 1 := ⟨n - 1, by omega⟩
    unfold tw_MO_lookup_h98
    rw [if_pos (show iN (q_pt e []) ≤ 0 by show iN 0 ≤ 0; decide), List.any_nil, Bool.or_false]
    refine ⟨_, _, _, _, r, rfl, hla, ?_⟩
    rw [List.map_nil]
    show q_W G 2001 G false st0 (pre ++ []) r
    rw [List.append_nil]
    exact hr
  | cons u ps ih =>
    intro e n fl lvs lkd lat pre r h ho he0 he hl hn hla hr
    rw [List.length_cons] at hn
    obtain ⟨n, rfl⟩ : ∃ m, n = m + 1 := ⟨n - 1, by omega⟩
    obtain ⟨h1, h2⟩ := sm_en h
    obtain ⟨um, uo⟩ := ho u List.mem_cons_self
    have e1 := q_e1l u
    have e2 := q_enl u ps
    have r2 := hr.2.1
    have r3 := hr.2.2.1
    have fr : ∀ x, x < G ∨ G + 2001 ≤ x → r.2.2 x = st0 x := hr.1
    have h1' : sm r.2.2 e (q_e1 u) := sm_fr h1 (fun x a c => fr x (by omega))
    obtain ⟨v1, v2, v3⟩ := r_ts (d := 0) (fu := fu) (sm_fr hz (fun x a c => fr x (by omega))) hzm ezt hze (by omega) (by omega)
    have s1 := sm_e1 h1'
    have ob := r_ob (fu := fu) s1.2.1 (sm_ap.1 v3).1 (by omega) (by omega) (by omega)
    unfold tw_MO_lookup_h98 tw_MO_lookup_r103
    rw [q_ptc, if_neg (by simp (disch := omega) only [i_0, iN_a, iN_c, iN_le, iN_lt, iN_eq, iN_i]; omega), r_ne h1' um (by omega) (by omega), obs1, v1, obs1, v2, obs1, iN_s (by omega), iN_s1 (by omega), show e + u.2.1.length + 1 - e - 1 = u.2.1.length by omega, show iN e + 1 = iN (e + 1) from iN_a e 1, show iN (ez + z.2.1.length + 2) + 4 = iN (ez + z.2.1.length + 2 + 4) from iN_a _ 4, ob, obs1, List.any_cons, List.map_cons, q_enc]
    -- the next element
    have next : ∀ (fl2 : Bool) (lvs2 : Int32) (lkd2 lat2 : Nat → Int32) (r' : q_R), q_la2 lkd2 lat2 0 P (q_l1 (q_lD xs D)) → q_W G 2001 G false st0 (pre ++ q_e1 (q_r1 tz (4, q_bx (q_rn 0 (q_mi (fun d => q_blg xs ys D (B.getD d [])) B 0))) none u)) r' → fl2 = (fl || decide (u.2.1 = tz)) → ∃ x9' lvs' lkd' lat' r4, ob1 (tw_MO_nextOf fu r'.2.2 (iN e)) (fun r_25 => tw_MO_lookup_h98 fu dcs frm siz C x2 (iN ey) (iN ez) x5 (iN (q_l1 (q_lD xs D)).length) (iN G) n fl2 r_25 frs frt (iN r'.1) (iN G) (iN 2001) r'.2.1 tgr lvs2 r'.2.2 ffr fsz lkd2 lat2) = C (fl || (decide (u.2.1 = tz) || ps.any (fun u => decide (u.2.1 = tz)))) x9' frs frt (iN r4.1) (iN G) (iN 2001) r4.2.1 tgr lvs' r4.2.2 ffr fsz lkd' lat' ∧ q_la2 lkd' lat' 0 P (q_l1 (q_lD xs D)) ∧ q_W G 2001 G false st0 (pre ++ (q_e1 (q_r1 tz (4, q_bx (q_rn 0 (q_mi (fun d => q_blg xs ys D (B.getD d [])) B 0))) none u) ++ q_en (ps.map (q_r1 tz (4, q_bx (q_rn 0 (q_mi (fun d => q_blg xs ys D (B.getD d [])) B 0))) none)))) r4 := by
      intro fl2 lvs2 lkd2 lat2 r' q1 q2 q3
      rw [r_no (fu := fu) (sm_fr h (fun x a c => q2.1 x (by rw [List.length_append, List.length_singleton] at c; omega))) ho (by omega) (by omega), obs1, ← Bool.or_assoc, ← q3]
      obtain ⟨a1, a2, a3, a4, r4, w1, w2, w3⟩ := ih (e + (q_e1 u).length) n fl2 lvs2 lkd2 lat2 _ r' h2 (fun w hw => ho w (List.mem_cons_of_mem _ hw)) (by omega) (by omega) (by omega) (by omega) q1 q2
      rw [List.append_assoc] at w3
      exact ⟨a1, a2, a3, a4, r4, w1, w2, w3⟩
    by_cases c : u.2.1 = tz
    · have r1u : q_r1 tz (4, q_bx (q_rn 0 (q_mi (fun d => q_blg xs ys D (B.getD d [])) B 0))) none u = (4, tz, q_bx (q_rn 0 (q_mi (fun d => q_blg xs ys D (B.getD d [])) B 0))) := by
        unfold q_r1
        rw [if_pos c, c]
      rw [if_pos (q_ob0.2 c)]
      try dsimp only
      rw [if_neg (show ¬ b2i true = 0 by decide)]
      obtain ⟨vy, _, _⟩ := r_ts (d := 0) (fu := fu) (sm_fr hy (fun x a c => fr x (by omega))) hym eyt hye (by omega) (by omega)
      obtain ⟨lvs', lkd', lat', r', g1, g2, g3⟩ := r_fd (lvs := lvs) (t := G) (dz := 0) hf hG hG2 (Nat.le_refl _) hb hyg hy0 hy8 hsq (by omega) hD hDo hDl hP hl1 hz hzm ezt hze hzl hzg hla hr
      rw [vy, obs1, show iN (ey + y.2.1.length + 2) + 4 = iN (ey + y.2.1.length + 2 + 4) from iN_a _ 4, g1, obs6]
      unfold tw_MO_lookup_r175
      rw [← r1u] at g3
      cases fl with
      | false =>
        rw [if_pos (show b2i false = 0 from rfl), if_neg (show ¬ b2i true = 0 by decide)]
        exact next true _ _ _ r' g2 g3 (by rw [decide_eq_true c]; rfl)
      | true =>
        rw [if_neg (show ¬ b2i true = 0 by decide)]
        exact next true _ _ _ r' g2 g3 rfl
    · have r1u : q_r1 tz (4, q_bx (q_rn 0 (q_mi (fun d => q_blg xs ys D (B.getD d [])) B 0))) none u = u := by
        unfold q_r1
        rw [if_neg c]
      rw [if_neg (fun q => c (q_ob0.1 q))]
      try dsimp only
      rw [if_pos (show b2i false = 0 from rfl)]
      obtain ⟨s, a1, a2⟩ := r_ele (fu := fu) (g := G) (m := 2001) (t := r.1) (o := r.2.1) (by omega) (by omega) r3 h1' um uo (by omega) (by omega) (by omega)
      have W := q_Wa hr a2
      rw [a1, q_o3e]
      unfold tw_MO_lookup_r175
      rw [r1u] at next
      rw [r1u]
      cases fl with
      | false =>
        rw [if_pos (show b2i false = 0 from rfl), if_pos (show b2i false = 0 from rfl)]
        exact next false _ _ _ s hla W (by rw [decide_eq_false c]; rfl)
      | true =>
        rw [if_neg (show ¬ b2i true = 0 by decide)]
        exact next true _ _ _ s hla W rfl
theorem q_lkm {nm row : List UInt8} {ps : List q_P} : (ps.any (fun u => decide (u.2.1 = nm)) = true → q_lkE nm row ps = ps.map (q_r1 nm (4, row) none)) ∧ (ps.any (fun u => decide (u.2.1 = nm)) = false → q_lkE nm row ps = ps.map (q_r1 nm (4, row) none) ++ [(4, nm, row)]) := by
  unfold q_lkE
  cases hq : q_fn nm ps with
  | none =>
    have z := q_fnz hq
    have m : ps.map (q_r1 nm (4, row) none) = ps := by
      have : ∀ u ∈ ps, q_r1 nm (4, row) none u = u := by
        intro u hu
        unfold q_r1
        rw [if_neg (z u hu)]
      conv => rhs; rw [← List.map_id ps]
      exact List.map_congr_left this
    refine ⟨fun q => ?_, fun _ => by rw [m]⟩
    obtain ⟨u, u1, u2⟩ := List.any_eq_true.1 q
    exact absurd (of_decide_eq_true u2) (z u u1)
  | some y =>
    obtain ⟨g1, g2, _⟩ := q_fnm (o := y.1) (y := y.2) hq
    refine ⟨fun _ => rfl, fun q => ?_⟩
    have : ps.any (fun u => decide (u.2.1 = nm)) = true := List.any_eq_true.2 ⟨y.2, g1, decide_eq_true g2⟩
    rw [q] at this
    cases this
theorem r_22 {fu ex ey ez dx : Nat} {dcs tot frm siz : Nat → Int32} {C : Int32 → q_K13} {F B xs ys : List (List UInt8)} {tx ty tz : List UInt8} {x y z : q_P} (hf : 60000 ≤ fu) (hxg : ∀ u ∈ xs, q_gs u) (hx0 : xs ≠ []) (hx8 : xs.length ≤ 8) (hyg : ∀ u ∈ ys, q_gs u) (hy0 : ys ≠ []) (hy8 : ys.length ≤ 8) (hpx : q_po tx = some xs) (hpy : q_po ty = some ys) (hpz : q_pln tz = true)
    (hxm : (0 : UInt8) ∉ x.2.1) (ext : x.2.2 = q_tx tx) (hxe : ex + (q_e1 x).length ≤ 136400) (hxl : (q_e1 x).length ≤ 2000) (hxgg : 128100 ≤ ex) (hym : (0 : UInt8) ∉ y.2.1) (eyt : y.2.2 = q_tx ty) (hye : ey + (q_e1 y).length ≤ 136400) (hyl : (q_e1 y).length ≤ 2000) (hygg : 128100 ≤ ey) (hzm : (0 : UInt8) ∉ z.2.1) (ezt : z.2.2 = q_tx tz) (hze : ez + (q_e1 z).length ≤ 136400) (hzl : (q_e1 z).length ≤ 2000) (hzg : 128100 ≤ ez) :
    ∀ (m i n : Nat) (frs frt top bgn mst : Int32) (ovr tgr : Bool) (lvs : Int32) (st ffr fsz lkd lat : Nat → Int32) (N : Option (List (List UInt8))), i + m = F.length → m < n → sm st ex (q_e1 x) → sm st ey (q_e1 y) → sm st ez (q_e1 z) → q_rb st 0 dcs tot frm siz F → q_rb st 1 dcs tot frm siz B → q_fr st frs frt top tgr ffr fsz N →
    ∃ fs ft tp bg ms ov tg lv st' ff fz lk la, tw_MO_lookup_h22 fu dcs frm siz C (iN ex) (iN ey) (iN ez) n (iN i) frs frt top bgn mst ovr tgr lvs st ffr fsz lkd lat = C (iN F.length) fs ft tp bg ms ov tg lv st' ff fz lk la ∧ q_fr st' fs ft tp tg ff fz (q_run N ((F.drop i).map (q_lkD xs ys tz B))) ∧ (∀ j, j < 80000 ∨ 122001 ≤ j → st' j = st j) := by
  have lxe := q_e1l x
  have lye := q_e1l y
  have lx : x.2.2.length = tx.length + 5 := by rw [ext, q_txl]
  have ly : y.2.2.length = ty.length + 5 := by rw [eyt, q_txl]
  intro m
  induction m with
  | zero =>
    intro i n frs frt top bgn mst ovr tgr lvs st ffr fsz lkd lat N hi hn h1 h2 h3 hb0 hb1 h
    obtain ⟨n, rfl⟩ : ∃ m, n = m + 1 := ⟨n - 1, by omega⟩
    have : i = F.length := by omega
    subst this
    unfold tw_MO_lookup_h22
    rw [show dcs (0 : Int32).toNatClampNeg = iN F.length from hb0.1, if_pos (Int32.le_refl _), List.drop_length]
    exact ⟨_, _, _, _, _, _, _, _, _, _, _, _, _, rfl, h, fun _ _ => rfl⟩
  | succ m ih =>
    intro i n frs frt top bgn mst ovr tgr lvs st ffr fsz lkd lat N hi hn h1 h2 h3 hb0 hb1 h
    obtain ⟨n, rfl⟩ : ∃ m, n = m + 1 := ⟨n - 1, by omega⟩
    have il : i < F.length := by omega
    have F1 := hb0.2.2.2.2.1
    have F2 := hb0.2.2.2.2.2.1
    have G2 := hb1.2.2.2.2.2.1
    have hk : F[i]? = some F[i] := List.getElem?_eq_getElem il
    obtain ⟨d1, d2, d3, d4⟩ := q_rbd hb0 hk
    obtain ⟨f1, f2⟩ := hb0.2.2.1 i _ hk
    simp only [Nat.mul_zero, Nat.zero_add] at f1 f2 d1 d4
    obtain ⟨vx, _, vt⟩ := r_ts (d := 0) (fu := fu) h1 hxm ext hxe (by omega) (by omega)
    obtain ⟨_, _, vty⟩ := r_ts (d := 0) (fu := fu) h2 hym eyt hye (by omega) (by omega)
    have pjx := (q_pok hpx).1
    have pjy := (q_pok hpy).1
    have sqx : q_sq st (ex + x.2.1.length + 2 + 4) xs := by
      intro _
      rw [← pjx]
      exact ⟨vt, by omega, by omega, by omega⟩
    have sqy : q_sq st (ey + y.2.1.length + 2 + 4) ys := by
      intro _
      rw [← pjy]
      exact ⟨vty, by omega, by omega, by omega⟩
    obtain ⟨lkd1, lat1, v1, v2, v3, v4, v5⟩ := r_lv1 (fu := fu) (c := 0) (lkd := lkd) (lat := lat) (by omega) (Or.inl rfl) (by omega) hxg hx0 hx8 sqx d2 d1 d3
    have lv : ∃ lkd2 lat2, q_la2 lkd2 lat2 0 (q_pf F i) (q_l1 (q_lD xs F[i])) ∧ ∀ (C' : q_K13) (y2 y3 y4 y5 a1 a2 a3 a4 a5 : Int32) (a6 a7 : Bool) (stt b1 b2 : Nat → Int32), tw_MO_lookup_r57 fu dcs frm siz C' y2 y3 y4 y5 a1 a2 a3 a4 a5 a6 a7 (iN (0 + (q_lD xs F[i]).length)) stt b1 b2 lkd1 lat1 = C' a1 a2 a3 a4 a5 a6 a7 (iN (q_l1 (q_lD xs F[i])).length) stt b1 b2 lkd2 lat2 := by
      by_cases c : q_lD xs F[i] = []
      · have l1 : q_l1 (q_lD xs F[i]) = [q_ms] := if_pos c
        refine ⟨upd lkd1 0 0, upd lat1 0 0, ?_, fun C' y2 y3 y4 y5 a1 a2 a3 a4 a5 a6 a7 stt b1 b2 => ?_⟩
        · rw [l1]
          intro i' z' hz'
          have i0 : i' = 0 := by
            have := (List.getElem?_eq_some_iff.1 hz').1
            rw [List.length_singleton] at this
            omega
          subst i0
          cases hz'
          rw [Nat.add_zero, q_upe, q_upe]
          exact ⟨rfl, rfl⟩
        · unfold tw_MO_lookup_r57
          rw [l1, c, List.length_nil, Nat.add_zero, if_pos (show iN 0 = 0 from rfl), v3 c, obs3]
          rfl
      · have l1 : q_l1 (q_lD xs F[i]) = q_lD xs F[i] := if_neg c
        have nz : 0 < (q_lD xs F[i]).length := List.length_pos_iff.2 c
        refine ⟨lkd1, lat1, by rw [l1]; exact v4 c, fun C' y2 y3 y4 y5 a1 a2 a3 a4 a5 a6 a7 stt b1 b2 => ?_⟩
        unfold tw_MO_lookup_r57
        rw [l1, Nat.zero_add, if_neg (by simp (disch := omega) only [i_0, iN_a, iN_c, iN_le, iN_lt, iN_eq, iN_i]; omega)]
    obtain ⟨lkd2, lat2, w1, w2⟩ := lv
    have ll := q_l1l (q_lD xs F[i])
    obtain ⟨lt1, lt2⟩ := q_tpl h
    obtain ⟨r, r1, r2⟩ := r_bd (fu := fu) (bgn := bgn) (mst := mst) (ovr := ovr) (by omega) h
    have fr : ∀ j, j < q_tp N ∨ q_tp N + 2001 ≤ j → r.2.2 j = st j := r2.1
    have hlko := q_lko (xs := xs) (ys := ys) (nm := tz) hb1.2.2.2.2 d2 d3 hpz
    have hDD : F[i] = F[i] := rfl
    generalize hDe : F[i] = D at *
    obtain ⟨e', ps, he', rfl, o1, o2⟩ := q_okd d2 (Or.inl rfl)
    have bl := q_bxl ps
    have psb := q_psb o1 (show (q_bx ps).length < 4294967296 by omega)
    have psl := q_psl ps
    have hen : sm st (q_pf F i + 4) (q_en ps ++ [0]) := (sm_ap.1 d1).2
    have H := fun C' => r_98 (fu := fu) (G := q_tp N) (P := q_pf F i) (s2 := 0) (ey := ey) (ez := ez) (x2 := iN ex) (x5 := iN i) (frs := frs) (frt := frt) (tgr := tgr) (dcs := dcs) (tot := tot) (frm := frm) (siz := siz) (ffr := ffr) (fsz := fsz) (st0 := st) (C := C') (B := B) (xs := xs) (ys := ys) (D := q_bx ps) (ty := ty) (tz := tz) (y := y) (z := z) hf lt1 lt2 hb1 hyg hy0 hy8 sqy d1 d2 d3 (by omega) (by omega) h2 hym eyt hye hyl hygg h3 hzm ezt hze hzl hzg ps (q_pf F i + 4) fu false (iN (q_l1 (q_lD xs (q_bx ps))).length) lkd2 lat2 [0, 0, 0, 0] r hen o1 (by omega) (by omega) (by omega) (by omega) w1 r2
    unfold tw_MO_lookup_h22
    rw [show dcs (0 : Int32).toNatClampNeg = iN F.length from hb0.1, if_neg (by simp (disch := omega) only [iN_a, iN_c, iN_le, iN_lt, iN_eq, iN_i]; omega), if_pos (by simp (disch := omega) only [i_0, i_400, iN_a, iN_c, iN_le, iN_lt, iN_eq, iN_i]; omega), iN_c (by omega), f1, vx, obs1, show iN (ex + x.2.1.length + 2) + 4 = iN (ex + x.2.1.length + 2 + 4) from iN_a _ 4, show tw_MO_lvs0 fu st 0 lkd lat 3 (iN (q_pf F i)) (iN (ex + x.2.1.length + 2 + 4)) = _ from v1, obs3, w2]
    try dsimp only
    rw [r1, obs6, r_fo (sm_fr d1 (fun j u v => fr j (by omega))) o1 (by omega), obs1]
    obtain ⟨x9', lvs', lkd', lat', r', u1, u2, u3⟩ := H _
    rw [u1]
    try dsimp only
    unfold tw_MO_lookup_r203
    rw [Bool.false_or]
    obtain ⟨km1, km2⟩ := q_lkm (nm := tz) (row := q_bx (q_rn 0 (q_mi (fun d => q_blg xs ys (q_bx ps) (B.getD d [])) B 0))) (ps := ps)
    -- the document ends
    have fin : ∀ (lvs2 : Int32) (lkd3 lat3 : Nat → Int32) (r'' : q_R), q_W (q_tp N) 2001 (q_tp N) false st ([0, 0, 0, 0] ++ q_en (q_lkE tz (q_bx (q_rn 0 (q_mi (fun d => q_blg xs ys (q_bx ps) (B.getD d [])) B 0))) ps)) r'' → ∃ fs ft tp bg ms ov tg lv st' ff fz lk la, ob8 (tw_MO_endDocument fu (iN (q_tp N)) (iN 2001) frs frt (iN r''.1) r''.2.1 tgr r''.2.2 ffr fsz (iN (q_tp N))) (fun frs_35 frt_35 top_35 ovr_35 tgr_35 st_35 ffr_35 fsz_35 => tw_MO_lookup_h22 fu dcs frm siz C (iN ex) (iN ey) (iN ez) n (iN i + 1) frs_35 frt_35 top_35 (iN (q_tp N)) (iN 2001) ovr_35 tgr_35 lvs2 st_35 ffr_35 fsz_35 lkd3 lat3) = C (iN F.length) fs ft tp bg ms ov tg lv st' ff fz lk la ∧ q_fr st' fs ft tp tg ff fz (q_run N ((F.drop i).map (q_lkD xs ys tz B))) ∧ (∀ j, j < 80000 ∨ 122001 ≤ j → st' j = st j) := by
      intro lvs2 lkd3 lat3 r'' hW
      have ok := hlko
      unfold q_lkD at ok
      rw [psb] at ok
      obtain ⟨fs, ft, tp, ov, tg, st', ff, fz, e1, e2, e3⟩ := r_ed (fu := fu) (r := r'') (by omega) h hW ok (by omega)
      rw [e1, obs8, show iN i + 1 = iN (i + 1) from iN_a i 1, List.drop_eq_getElem_cons il, hDe, List.map_cons, q_runc]
      have fr' : ∀ j, j < 80000 ∨ 122001 ≤ j → st' j = st j := fun j hj => e3 j (by omega)
      have eD : q_lkD xs ys tz B (q_bx ps) = q_bx (q_lkE tz (q_bx (q_rn 0 (q_mi (fun d => q_blg xs ys (q_bx ps) (B.getD d [])) B 0))) ps) := by
        unfold q_lkD
        rw [psb]
      rw [eD]
      obtain ⟨b1, b2, b3, b4, b5, b6, b7, b8, b9, b10, b11, b12, b13, t1, t2, t3⟩ := ih (i + 1) n fs ft tp (iN (q_tp N)) (iN 2001) ov tg lvs2 st' ff fz lkd3 lat3 _ (by omega) (by omega) (sm_fr h1 (fun j u v => fr' j (by omega))) (sm_fr h2 (fun j u v => fr' j (by omega))) (sm_fr h3 (fun j u v => fr' j (by omega))) (q_rbf hb0 (fun j u v => fr' j (by omega))) (q_rbf hb1 (fun j u v => fr' j (by omega))) e2
      exact ⟨b1, b2, b3, b4, b5, b6, b7, b8, b9, b10, b11, b12, b13, t1, t2, fun j hj => (t3 j hj).trans (fr' j hj)⟩
    cases hq : ps.any (fun u => decide (u.2.1 = tz)) with
    | true =>
      rw [if_neg (show ¬ b2i true = 0 by decide)]
      rw [← km1 hq] at u3
      exact fin _ _ _ r' u3
    | false =>
      rw [if_pos (show b2i false = 0 from rfl)]
      have fr2 : ∀ j, j < q_tp N ∨ q_tp N + 2001 ≤ j → r'.2.2 j = st j := u3.1
      obtain ⟨vy, _, _⟩ := r_ts (d := 0) (fu := fu) (sm_fr h2 (fun j u v => fr2 j (by omega))) hym eyt hye (by omega) (by omega)
      obtain ⟨lvs3, lkd3, lat3, r5, g1, g2, g3⟩ := r_fd (lvs := lvs') (t := q_tp N) (dz := 0) hf lt1 lt2 (Nat.le_refl _) hb1 hyg hy0 hy8 sqy (by omega) d1 d2 d3 (by omega) (by omega) h3 hzm ezt hze hzl hzg u2 u3
      rw [vy, obs1, show iN (ey + y.2.1.length + 2) + 4 = iN (ey + y.2.1.length + 2 + 4) from iN_a _ 4, g1, obs6]
      refine fin _ _ _ r5 ?_
      rw [km2 hq, q_ena]
      rw [List.append_assoc] at g3
      show q_W (q_tp N) 2001 (q_tp N) false st ([0, 0, 0, 0] ++ (q_en _ ++ (q_e1 _ ++ []))) r5
      rw [List.append_nil]
      exact g3
