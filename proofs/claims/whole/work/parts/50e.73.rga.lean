/-! the pure part: the reference gathers -/
abbrev q_O19 : Type := Option (Int32 × Int32 × Int32 × Int32 × Int32 × Int32 × Bool × Bool × Int32 × Int64 × Int64 × Bool × (Nat → Int32) × (Nat → Int32) × (Nat → Int32) × (Nat → Int32) × (Nat → Int32) × (Nat → Int32) × (Nat → Int32))
abbrev q_G18 : Type := Int32 → Int32 → Int32 → Int32 → Int32 → Bool → Bool → Int32 → Int64 → Int64 → Bool → (Nat → Int32) → (Nat → Int32) → (Nat → Int32) → (Nat → Int32) → (Nat → Int32) → (Nat → Int32) → (Nat → Int32) → q_O19
theorem r_ko {fu e a g d : Nat} {top bgn mst : Int32} {ovr : Bool} {st : Nat → Int32} {x : q_P} {doc : List UInt8} (hf : 2500 ≤ fu) (h : sm st e (q_e1 x)) (hm : (0 : UInt8) ∉ x.2.1) (ho : q_ok d x.1 x.2.2) (he : e + (q_e1 x).length ≤ 136400) (hl : (q_e1 x).length ≤ 2000) (hge : g + 4100 ≤ e)
    (hx : q_xf x.1 x.2.2 = 0) (hd : q_ok 16 3 doc) (hD : sm st a doc) (hag : a + doc.length ≤ g) (hv : doc.length ≤ 2000) :
    ∃ st', tw_MO_keyOf fu top bgn mst ovr st (iN e) (iN a) (iN g) = some (iN ((q_xv x.1 x.2.2 doc).getD (10, [])).1.toNat, iN (g + ((q_xv x.1 x.2.2 doc).getD (10, [])).2.length), iN g, iN 4100, false, st') ∧ sm st' g ((q_xv x.1 x.2.2 doc).getD (10, [])).2 ∧ (∀ j, j < g ∨ g + 4100 ≤ j → st' j = st j) := by
  have X := r_ev (fu := fu) (g := g) (top := top) (bgn := bgn) (mst := mst) (ovr := ovr) hf h hm ho he hl hge hx hd (by omega) hD hag hv
  unfold tw_MO_keyOf
  generalize tw_MO_evaluate fu top bgn mst ovr st (iN e) (iN a) (iN g) = R at X ⊢
  cases hz : q_xv x.1 x.2.2 doc with
  | none =>
    rw [hz] at X
    have X : R = some (iN 0, iN g, iN g, iN 4100, false, st) := X
    rw [X, obs6, if_pos (show iN 0 = 0 from rfl)]
    exact ⟨st, rfl, trivial, fun _ _ => rfl⟩
  | some z =>
    rw [hz] at X
    obtain ⟨st', x1, x2, x3⟩ := X
    have kz := q_okn (q_xvp ho hd hv (by have := q_e1l x; omega) hz).2
    rw [x1, obs6, if_neg (by simp (disch := omega) only [i_0, iN_a, iN_c, iN_le, iN_lt, iN_eq, iN_i]; omega)]
    exact ⟨st', rfl, x2, x3⟩
theorem q_gkl {F : List (List UInt8)} {x0 : q_P} {d i : Nat} (hF : q_FO F) (hw : q_ok d x0.1 x0.2.2) (hwl : x0.2.2.length ≤ 2000) (hi : i < F.length) : (q_gk x0 F i).2.length ≤ 2000 := by
  unfold q_gk
  rw [q_gdd (List.getElem?_eq_getElem hi)]
  cases hz : q_xv x0.1 x0.2.2 F[i] with
  | none => exact Nat.zero_le _
  | some z =>
    obtain ⟨d1, d2⟩ := hF.2.2 _ (List.getElem_mem hi)
    exact (q_xvp hw d1 d2 hwl hz).1
theorem r_42 {fu e d i : Nat} {dcs tot frm siz ffr fsz odr grp ikd iat : Nat → Int32} {frs frt its : Int32} {tgr dfl : Bool} {hgh loo : Int64} {K : Int32 → q_G18} {F : List (List UInt8)} {x0 : q_P} (hf : 2500 ≤ fu) (hm : (0 : UInt8) ∉ x0.2.1) (ho : q_ok d x0.1 x0.2.2) (hd16 : d ≤ 16) (he : e + (q_e1 x0).length ≤ 136400) (hl : (q_e1 x0).length ≤ 2000) (hge : 134400 ≤ e) (hx : q_xf x0.1 x0.2.2 = 0) (hi : i < F.length) (hodr : q_ar odr 0 (q_gf (q_gk x0 F) i)) :
    ∀ (m g n : Nat) (top bgn mst : Int32) (ovr : Bool) (st : Nat → Int32), g + m = (q_gf (q_gk x0 F) i).length → m < n → q_gn (q_gk x0 F) i = g + q_fdx (q_sK (q_gk x0 F) i) ((q_gf (q_gk x0 F) i).drop g) → sm st e (q_e1 x0) → q_rb st 0 dcs tot frm siz F → sm st 124000 (q_gk x0 F i).2 →
    ∃ tp bg ms ov st', tw_MO_group_h42 fu dcs frm K (iN e) (iN (q_gf (q_gk x0 F) i).length) (iN i) (iN (q_gk x0 F i).1.toNat) n (iN g) frs frt top bgn mst ovr tgr its hgh loo dfl st ffr fsz odr grp ikd iat = K (iN (q_gn (q_gk x0 F) i)) frs frt tp bg ms ov tgr its hgh loo dfl st' ffr fsz odr grp ikd iat ∧ (∀ j, j < 128200 ∨ 132300 ≤ j → st' j = st j) := by
  have fl := q_gfl (q_gk x0 F) i
  intro m
  induction m with
  | zero =>
    intro g n top bgn mst ovr st hg hn hgn _ hb _
    obtain ⟨n, rfl⟩ : ∃ m, n = m + 1 := ⟨n - 1, by omega⟩
    have : g = (q_gf (q_gk x0 F) i).length := by omega
    subst this
    rw [List.drop_length] at hgn
    have hgn : q_gn (q_gk x0 F) i = (q_gf (q_gk x0 F) i).length := hgn
    unfold tw_MO_group_h42
    rw [if_pos (Int32.le_refl _), hgn]
    exact ⟨_, _, _, _, _, rfl, fun _ _ => rfl⟩
  | succ m ih =>
    intro g n top bgn mst ovr st hg hn hgn hs hb hk
    obtain ⟨n, rfl⟩ : ∃ m, n = m + 1 := ⟨n - 1, by omega⟩
    have F1 := hb.2.2.2.2.1
    have F2 := hb.2.2.2.2.2.1
    have gl : g < (q_gf (q_gk x0 F) i).length := by omega
    have og := hodr g _ (List.getElem?_eq_getElem gl)
    rw [Nat.zero_add] at og
    have fm := q_gfm (q_gk x0 F) i _ (List.getElem_mem gl)
    have e1 := q_e1l x0
    generalize hfe : (q_gf (q_gk x0 F) i)[g] = f at *
    have fF : f < F.length := by omega
    have hkf : F[f]? = some F[f] := List.getElem?_eq_getElem fF
    obtain ⟨d1, d2, d3, d4⟩ := q_rbd hb hkf
    obtain ⟨f1, f2⟩ := hb.2.2.1 f _ hkf
    simp only [Nat.mul_zero, Nat.zero_add] at f1 f2 d1 d4
    have gd := q_gdd hkf
    obtain ⟨st', k1, k2, k3⟩ := r_ko (fu := fu) (g := 128200) (top := top) (bgn := bgn) (mst := mst) (ovr := ovr) hf hs hm ho he hl (by omega) hx d2 d1 (by omega) d3
    rw [← gd] at k1 k2
    change tw_MO_keyOf fu top bgn mst ovr st (iN e) (iN (q_pf F f)) (iN 128200) = some (iN (q_gk x0 F f).1.toNat, iN (128200 + (q_gk x0 F f).2.length), iN 128200, iN 4100, false, st') at k1
    change sm st' 128200 (q_gk x0 F f).2 at k2
    have v1 := q_gkv hb.2.2.2.2 ho hd16 (by omega) hi
    have v2 := q_gkv hb.2.2.2.2 ho hd16 (by omega) fF
    have l1 := q_gkl hb.2.2.2.2 ho (by omega) hi
    have l2 := q_gkl hb.2.2.2.2 ho (by omega) fF
    have od := r_ord0 (fu := fu) (p := 124000) (q := 128200) hf (Or.inl v1) (Or.inl v2) (sm_fr hk (fun j u v => k3 j (by omega))) k2 (by omega) (by omega) (by omega) (by omega) (by omega)
    change tw_MO_ord0 fu st' (iN (q_gk x0 F i).1.toNat) (iN 124000) (iN (q_gk x0 F f).1.toNat) (iN 128200) = some (q_ov2 20 (q_gk x0 F i) (q_gk x0 F f)) at od
    rw [List.drop_eq_getElem_cons gl, hfe] at hgn
    have ng := (q_ovp 20).2.1 (q_gk x0 F f) (q_gk x0 F i)
    unfold tw_MO_group_h42
    rw [if_neg (by simp (disch := omega) only [iN_a, iN_c, iN_le, iN_lt, iN_eq, iN_i]; omega), if_pos (by simp (disch := omega) only [i_0, i_200, iN_a, iN_c, iN_le, iN_lt, iN_eq, iN_i]; omega), iN_c (show g < 2147483648 by omega), og, if_pos (by simp (disch := omega) only [i_0, i_400, iN_a, iN_c, iN_le, iN_lt, iN_eq, iN_i]; omega), iN_c (by omega), f1, show (128200 : Int32) = iN 128200 from rfl, k1, obs6, show (124000 : Int32) = iN 124000 from rfl, od, obs1, ng]
    by_cases c : q_ov2 20 (q_gk x0 F f) (q_gk x0 F i) = 0
    · have fz : q_fdx (q_sK (q_gk x0 F) i) (f :: (q_gf (q_gk x0 F) i).drop (g + 1)) = 0 := if_pos (decide_eq_true c)
      rw [fz, Nat.add_zero] at hgn
      rw [if_pos (by rw [c]; exact q_n0), hgn]
      exact ⟨_, _, _, _, st', rfl, fun j hj => k3 j (by omega)⟩
    · have fz : q_fdx (q_sK (q_gk x0 F) i) (f :: (q_gf (q_gk x0 F) i).drop (g + 1)) = q_fdx (q_sK (q_gk x0 F) i) ((q_gf (q_gk x0 F) i).drop (g + 1)) + 1 := if_neg (show ¬ q_sK (q_gk x0 F) i f = true from fun z => c (of_decide_eq_true z))
      rw [fz] at hgn
      rw [if_neg (fun z => c (by have t := congrArg Neg.neg z; rwa [Int32.neg_neg, q_n0] at t)), show iN g + 1 = iN (g + 1) from iN_a g 1]
      obtain ⟨tp, bg, ms, ov, st2, u1, u2⟩ := ih (g + 1) n (iN (128200 + (q_gk x0 F f).2.length)) (iN 128200) (iN 4100) false st' (by omega) (by omega) (by omega) (sm_fr hs (fun j u v => k3 j (by omega))) (q_rbf hb (fun j u v => k3 j (by omega))) (sm_fr hk (fun j u v => k3 j (by omega)))
      exact ⟨tp, bg, ms, ov, st2, u1, fun j hj => (u2 j hj).trans (k3 j (by omega))⟩
theorem r_11 {fu e d : Nat} {dcs tot frm siz ffr fsz ikd iat : Nat → Int32} {frs frt its : Int32} {tgr dfl : Bool} {hgh loo : Int64} {K : Int32 → Int32 → q_G18} {F : List (List UInt8)} {x0 : q_P} (hf : 2500 ≤ fu) (hm : (0 : UInt8) ∉ x0.2.1) (ho : q_ok d x0.1 x0.2.2) (hd16 : d ≤ 16) (he : e + (q_e1 x0).length ≤ 136400) (hl : (q_e1 x0).length ≤ 2000) (hge : 134400 ≤ e) (hx : q_xf x0.1 x0.2.2 = 0) :
    ∀ (m i n : Nat) (top bgn mst : Int32) (ovr : Bool) (st odr grp : Nat → Int32), i + m = F.length → m < n → sm st e (q_e1 x0) → q_rb st 0 dcs tot frm siz F → q_ar odr 0 (q_gf (q_gk x0 F) i) → (∀ j, j < i → grp j = iN (q_gn (q_gk x0 F) j)) →
    ∃ tp bg ms ov st' odr' grp', tw_MO_group_h11 fu dcs frm K (iN e) n (iN (q_gf (q_gk x0 F) i).length) (iN i) frs frt top bgn mst ovr tgr its hgh loo dfl st ffr fsz odr grp ikd iat = K (iN (q_gf (q_gk x0 F) F.length).length) (iN F.length) frs frt tp bg ms ov tgr its hgh loo dfl st' ffr fsz odr' grp' ikd iat ∧ q_ar odr' 0 (q_gf (q_gk x0 F) F.length) ∧ (∀ j, j < F.length → grp' j = iN (q_gn (q_gk x0 F) j)) ∧ (∀ j, j < 124000 ∨ 132300 ≤ j → st' j = st j) := by
  intro m
  induction m with
  | zero =>
    intro i n top bgn mst ovr st odr grp hi hn hs hb h1 h2
    obtain ⟨n, rfl⟩ : ∃ m, n = m + 1 := ⟨n - 1, by omega⟩
    have : i = F.length := by omega
    subst this
    unfold tw_MO_group_h11
    rw [show dcs (0 : Int32).toNatClampNeg = iN F.length from hb.1, if_pos (Int32.le_refl _)]
    exact ⟨_, _, _, _, _, _, _, rfl, h1, h2, fun _ _ => rfl⟩
  | succ m ih =>
    intro i n top bgn mst ovr st odr grp hi hn hs hb h1 h2
    obtain ⟨n, rfl⟩ : ∃ m, n = m + 1 := ⟨n - 1, by omega⟩
    have F1 := hb.2.2.2.2.1
    have F2 := hb.2.2.2.2.2.1
    have il : i < F.length := by omega
    have e1 := q_e1l x0
    have fl := q_gfl (q_gk x0 F) i
    have hki : F[i]? = some F[i] := List.getElem?_eq_getElem il
    obtain ⟨d1, d2, d3, d4⟩ := q_rbd hb hki
    obtain ⟨f1, f2⟩ := hb.2.2.1 i _ hki
    simp only [Nat.mul_zero, Nat.zero_add] at f1 f2 d1 d4
    have gd := q_gdd hki
    obtain ⟨st1, k1, k2, k3⟩ := r_ko (fu := fu) (g := 124000) (top := top) (bgn := bgn) (mst := mst) (ovr := ovr) hf hs hm ho he hl (by omega) hx d2 d1 (by omega) d3
    rw [← gd] at k1 k2
    change tw_MO_keyOf fu top bgn mst ovr st (iN e) (iN (q_pf F i)) (iN 124000) = some (iN (q_gk x0 F i).1.toNat, iN (124000 + (q_gk x0 F i).2.length), iN 124000, iN 4100, false, st1) at k1
    change sm st1 124000 (q_gk x0 F i).2 at k2
    have r42 := fun (C : Int32 → q_G18) => r_42 (fu := fu) (e := e) (i := i) (dcs := dcs) (tot := tot) (frm := frm) (siz := siz) (ffr := ffr) (fsz := fsz) (odr := odr) (grp := grp) (ikd := ikd) (iat := iat) (frs := frs) (frt := frt) (its := its) (tgr := tgr) (dfl := dfl) (hgh := hgh) (loo := loo) (K := C) hf hm ho hd16 he hl hge hx il h1 (q_gf (q_gk x0 F) i).length 0 fu (iN (124000 + (q_gk x0 F i).2.length)) (iN 124000) (iN 4100) false st1 (by omega) (by omega) (by rw [List.drop_zero, Nat.zero_add]; rfl) (sm_fr hs (fun j u v => k3 j (by omega))) (q_rbf hb (fun j u v => k3 j (by omega))) k2
    unfold tw_MO_group_h11
    rw [show dcs (0 : Int32).toNatClampNeg = iN F.length from hb.1, if_neg (by simp (disch := omega) only [iN_a, iN_c, iN_le, iN_lt, iN_eq, iN_i]; omega), if_pos (show 0 ≤ iN i ∧ iN i < 400 by simp (disch := omega) only [i_0, i_400, iN_a, iN_c, iN_le, iN_lt, iN_eq, iN_i]; omega), iN_c (show i < 2147483648 by omega), f1, show (124000 : Int32) = iN 124000 from rfl, k1, obs6]
    obtain ⟨tp, bg, ms, ov, st2, u1, u2⟩ := r42 _
    rw [show iN 0 = (0 : Int32) from rfl] at u1
    rw [u1]
    try dsimp only
    have le := q_fil (q_sK (q_gk x0 F) i) (q_gf (q_gk x0 F) i)
    change q_gn (q_gk x0 F) i ≤ _ at le
    have fr : ∀ j, j < 124000 ∨ 132300 ≤ j → st2 j = st j := fun j hj => (u2 j (by omega)).trans (k3 j (by omega))
    unfold tw_MO_group_r89
    by_cases c : q_gn (q_gk x0 F) i = (q_gf (q_gk x0 F) i).length
    · rw [if_pos (by rw [c]), if_pos (by simp (disch := omega) only [i_0, i_200, iN_a, iN_c, iN_le, iN_lt, iN_eq, iN_i]; omega)]
      dsimp only
      rw [if_pos (by simp (disch := omega) only [i_0, i_200, iN_a, iN_c, iN_le, iN_lt, iN_eq, iN_i]; omega), iN_c (by omega), c, show iN (q_gf (q_gk x0 F) i).length + 1 = iN (q_gf (q_gk x0 F) (i + 1)).length by rw [q_gfs, if_pos c, List.length_append, List.length_singleton]; exact iN_a _ 1, show iN i + 1 = iN (i + 1) from iN_a i 1]
      obtain ⟨a1, a2, a3, a4, a5, a6, a7, w1, w2, w3, w4⟩ := ih (i + 1) n tp bg ms ov st2 (upd odr (q_gf (q_gk x0 F) i).length (iN i)) (upd grp i (iN (q_gf (q_gk x0 F) i).length)) (by omega) (by omega) (sm_fr hs (fun j u v => fr j (by omega))) (q_rbf hb (fun j u v => fr j (by omega))) (by
        rw [q_gfs, if_pos c, q_ara, q_arc]
        refine ⟨q_arf h1 (fun j u v => q_upn (by omega)), ?_, q_ar0 _ _⟩
        rw [Nat.zero_add, q_upe]) (fun j hj => by
        by_cases c2 : j = i
        · subst c2
          rw [q_upe, c]
        · rw [q_upn c2]
          exact h2 j (by omega))
      exact ⟨a1, a2, a3, a4, a5, a6, a7, w1, w2, w3, fun j hj => (w4 j hj).trans (fr j hj)⟩
    · rw [if_neg (by simp (disch := omega) only [iN_a, iN_c, iN_le, iN_lt, iN_eq, iN_i]; omega)]
      dsimp only
      rw [if_pos (by simp (disch := omega) only [i_0, i_200, iN_a, iN_c, iN_le, iN_lt, iN_eq, iN_i]; omega), show (q_gf (q_gk x0 F) i).length = (q_gf (q_gk x0 F) (i + 1)).length by rw [q_gfs, if_neg c], show iN i + 1 = iN (i + 1) from iN_a i 1]
      obtain ⟨a1, a2, a3, a4, a5, a6, a7, w1, w2, w3, w4⟩ := ih (i + 1) n tp bg ms ov st2 odr (upd grp i (iN (q_gn (q_gk x0 F) i))) (by omega) (by omega) (sm_fr hs (fun j u v => fr j (by omega))) (q_rbf hb (fun j u v => fr j (by omega))) (by
        rw [q_gfs, if_neg c]
        exact h1) (fun j hj => by
        by_cases c2 : j = i
        · subst c2
          rw [q_upe]
        · rw [q_upn c2]
          exact h2 j (by omega))
      exact ⟨a1, a2, a3, a4, a5, a6, a7, w1, w2, w3, fun j hj => (w4 j hj).trans (fr j hj)⟩
