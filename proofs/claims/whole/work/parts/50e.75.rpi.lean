/-! the pure part: the reference picks one value -/
def q_p1s (wk : Nat) (o : Option q_V) (f : Bool) (v : Option q_V) : Option q_V :=
  if wk = 5 then (if f = true then o else v) else if wk = 6 then v else (match v with | none => o | some z => (match o with | none => some z | some w => if q_sgn (decide (wk = 3)) (q_ov2 20 z w) = -1 then some z else some w))
def q_pfw (wk : Nat) : Option q_V → Bool → List (Option q_V) → Option q_V
  | o, _, [] => o
  | o, f, v :: r => q_pfw wk (q_p1s wk o f v) true r
theorem q_pfwc (wk : Nat) (o : Option q_V) (f : Bool) (v : Option q_V) (r : List (Option q_V)) : q_pfw wk o f (v :: r) = q_pfw wk (q_p1s wk o f v) true r := rfl
theorem q_pf5 (o : Option q_V) : ∀ vs, q_pfw 5 o true vs = o := by
  intro vs
  induction vs generalizing o with
  | nil => rfl
  | cons v r ih => exact ih o
theorem q_pf6 (o : Option q_V) (f : Bool) : ∀ vs : List (Option q_V), vs ≠ [] → q_pfw 6 o f vs = vs.getLastD none := by
  intro vs
  induction vs generalizing o f with
  | nil => exact fun h => absurd rfl h
  | cons v r ih =>
    intro _
    rw [q_pfwc]
    cases r with
    | nil => rfl
    | cons a r =>
      rw [ih _ _ (by simp)]
      simp [List.getLastD]
theorem q_pf34 {wk : Nat} (h5 : wk ≠ 5) (h6 : wk ≠ 6) : ∀ (vs : List (Option q_V)) (o : Option q_V) (f : Bool), q_pfw wk o f vs = q_bs (decide (wk = 3)) o (q_pv vs) := by
  intro vs
  induction vs with
  | nil => exact fun _ _ => rfl
  | cons v r ih =>
    intro o f
    rw [q_pfwc, ih, q_pvc]
    unfold q_p1s
    rw [if_neg h5, if_neg h6]
    cases v with
    | none => rfl
    | some z =>
      rw [q_bsc]
      cases o <;> rfl
theorem q_pfk {wk : Nat} {vs : List (Option q_V)} (h : wk = 3 ∨ wk = 4 ∨ wk = 5 ∨ wk = 6) (hv : vs ≠ []) : (q_pfw wk none false vs).getD (10, []) = q_pk wk vs := by
  unfold q_pk
  rcases h with rfl | rfl | rfl | rfl
  · rw [q_pf34 (by decide) (by decide)]
    rfl
  · rw [q_pf34 (by decide) (by decide)]
    rfl
  · cases vs with
    | nil => exact absurd rfl hv
    | cons v r =>
      rw [q_pfwc, show q_p1s 5 none false v = v from rfl, q_pf5]
      rfl
  · rw [q_pf6 _ _ _ hv]
    rfl
abbrev q_O5b : Type := Option (Int32 × Int32 × Int32 × Bool × (Nat → Int32))
theorem r_183 {fu : Nat} {dfl : Bool} {dcs frm grp : Nat → Int32} {top bgn mst : Int32} {ovr x9 : Bool} {x1 x2 x3 x4 x5 x6 x7 x8 x10 : Int32} {C : Int32 → Int32 → Int32 → Int32 → Bool → (Nat → Int32) → q_O5b} :
    ∀ (r dn : List UInt8) (n : Nat) (st : Nat → Int32), (dn ++ r).length ≤ 4000 → r.length < n → sm st 124000 (dn ++ r) → sm st 128200 dn →
    ∃ st', tw_MO_pick_h183 fu dfl dcs frm grp C x1 x2 x3 x4 x5 x6 x7 x8 x9 x10 (iN (dn ++ r).length) n (iN dn.length) top bgn mst ovr st = C (iN (dn ++ r).length) top bgn mst ovr st' ∧ sm st' 128200 (dn ++ r) ∧ (∀ j, j < 128200 ∨ 132300 ≤ j → st' j = st j) := by
  intro r
  induction r with
  | nil =>
    intro dn n st hl hn h1 h2
    obtain ⟨n, rfl⟩ : ∃ m, n = m + 1 := ⟨n - 1, by omega⟩
    unfold tw_MO_pick_h183
    rw [List.append_nil, if_pos (Int32.le_refl _)]
    exact ⟨st, rfl, h2, fun _ _ => rfl⟩
  | cons y r ih =>
    intro dn n st hl hn h1 h2
    rw [List.length_cons] at hn
    obtain ⟨n, rfl⟩ : ∃ m, n = m + 1 := ⟨n - 1, by omega⟩
    have ll : (dn ++ y :: r).length = dn.length + r.length + 1 := by
      rw [List.length_append, List.length_cons]
      omega
    have hy : st (124000 + dn.length) = iN y.toNat := (sm_ap.1 h1).2.1
    have e : dn ++ y :: r = (dn ++ [y]) ++ r := by simp
    unfold tw_MO_pick_h183
    rw [if_neg (by rw [ll]; simp (disch := omega) only [iN_a, iN_c, iN_le, iN_lt, iN_eq, iN_i]; omega), show (124000 : Int32) + iN dn.length = iN (124000 + dn.length) from iN_a 124000 _, show (128200 : Int32) + iN dn.length = iN (128200 + dn.length) from iN_a 128200 _, if_pos (by simp (disch := omega) only [i_0, i_136400, iN_a, iN_c, iN_le, iN_lt, iN_eq, iN_i]; omega), if_pos (by simp (disch := omega) only [i_0, i_136400, iN_a, iN_c, iN_le, iN_lt, iN_eq, iN_i]; omega), iN_c (by omega), iN_c (by omega), hy, show iN dn.length + 1 = iN (dn ++ [y]).length by rw [List.length_append, List.length_singleton]; exact iN_a _ 1]
    obtain ⟨st', u1, u2, u3⟩ := ih (dn ++ [y]) n (upd st (128200 + dn.length) (iN y.toNat)) (by rw [← e]; exact hl) (by omega) (by rw [← e]; exact sm_fr h1 (fun j u v => q_upn (by omega))) (sm_ap.2 ⟨sm_fr h2 (fun j u v => q_upn (by omega)), q_upe, trivial⟩)
    rw [← e] at u1 u2
    refine ⟨st', u1, u2, fun j hj => (u3 j hj).trans (q_upn (by omega))⟩
def q_pst (st : Nat → Int32) (x7 x8 : Int32) (o : Option q_V) : Prop := match o with | none => x7 = 0 | some z => x7 = iN z.1.toNat ∧ x8 = iN z.2.length ∧ sm st 128200 z.2 ∧ q_ok 16 z.1 z.2 ∧ z.2.length ≤ 2000
theorem q_psf {st st' : Nat → Int32} {x7 x8 : Int32} {o : Option q_V} (h : q_pst st x7 x8 o) (hf : ∀ j, 128200 ≤ j → j < 130200 → st' j = st j) : q_pst st' x7 x8 o := by
  cases o with
  | none => exact h
  | some z =>
    obtain ⟨h1, h2, h3, h4, h5⟩ := h
    exact ⟨h1, h2, sm_fr h3 (fun j u v => hf j (by omega) (by omega)), h4, h5⟩
def q_vkd (v : Option q_V) : Nat := match v with | none => 0 | some z => z.1.toNat
def q_vln (v : Option q_V) : Nat := match v with | none => 0 | some z => z.2.length
theorem r_29 {fu e d g i wk : Nat} {dfl f : Bool} {dcs tot frm siz grp st : Nat → Int32} {top bgn mst x1 x5 x6 x7 x8 : Int32} {ovr : Bool} {C : Int32 → Int32 → Bool → Int32 → Int32 → Int32 → Bool → (Nat → Int32) → q_O5b} {F : List (List UInt8)} {K : Nat → q_V} {w : q_P} {o : Option q_V} (hf : 5000 ≤ fu) (hm : (0 : UInt8) ∉ w.2.1) (ho : q_ok d w.1 w.2.2) (hd16 : d ≤ 16) (he : e + (q_e1 w).length ≤ 136400) (hl : (q_e1 w).length ≤ 2000) (hge : 134400 ≤ e) (hx : q_xf w.1 w.2.2 = 0) (hg : g < 1000) (hgn : q_gn K i < 1000) (hgrp : grp i = iN (q_gn K i)) (hwk : wk = 3 ∨ wk = 4 ∨ wk = 5 ∨ wk = 6) (hi : i < F.length) (hs : sm st e (q_e1 w)) (hb : q_rb st 0 dcs tot frm siz F) (hp : q_pst st x7 x8 o) :
    ∃ x7' x8' f' tp bg ms ov st', tw_MO_pick_r29 fu dfl dcs frm grp C x1 (iN e) (iN g) (iN wk) x5 x6 x7 x8 f (iN i) top bgn mst ovr st = C x7' x8' f' tp bg ms ov st' ∧ q_pst st' x7' x8' (if q_gn K i = g then q_p1s wk o f (q_xv w.1 w.2.2 (F.getD i [])) else o) ∧ f' = (if q_gn K i = g then true else f) ∧ (∀ j, j < 124000 ∨ 132300 ≤ j → st' j = st j) := by
  have F1 := hb.2.2.2.2.1
  have F2 := hb.2.2.2.2.2.1
  have e1 := q_e1l w
  have hki : F[i]? = some F[i] := List.getElem?_eq_getElem hi
  obtain ⟨d1, d2, d3, d4⟩ := q_rbd hb hki
  obtain ⟨f1, f2⟩ := hb.2.2.1 i _ hki
  simp only [Nat.mul_zero, Nat.zero_add] at f1 f2 d1 d4
  have gd := q_gdd hki
  unfold tw_MO_pick_r29
  rw [if_pos (show 0 ≤ iN i ∧ iN i < 200 by simp (disch := omega) only [i_0, i_200, iN_a, iN_c, iN_le, iN_lt, iN_eq, iN_i]; omega), iN_c (show i < 2147483648 by omega), hgrp]
  by_cases c : q_gn K i = g
  rotate_left
  · rw [if_neg (by simp (disch := omega) only [iN_a, iN_c, iN_le, iN_lt, iN_eq, iN_i]; omega), if_neg c, if_neg c]
    exact ⟨_, _, _, _, _, _, _, _, rfl, hp, rfl, fun _ _ => rfl⟩
  rw [if_pos (by rw [c]), if_pos c, if_pos c, gd]
  have X := r_ev (fu := fu) (g := 124000) (top := top) (bgn := bgn) (mst := mst) (ovr := ovr) (by omega) hs hm ho he hl (by omega) hx d2 (by omega) d1 (by omega) d3
  rw [if_pos (show 0 ≤ iN i ∧ iN i < 400 by simp (disch := omega) only [i_0, i_400, iN_a, iN_c, iN_le, iN_lt, iN_eq, iN_i]; omega), f1, show tw_MO_evaluate fu top bgn mst ovr st (iN e) (iN (q_pf F i)) 124000 = tw_MO_evaluate fu top bgn mst ovr st (iN e) (iN (q_pf F i)) (iN 124000) from rfl]
  generalize tw_MO_evaluate fu top bgn mst ovr st (iN e) (iN (q_pf F i)) (iN 124000) = R at X ⊢
  -- the value lies at 124000
  obtain ⟨v, hv⟩ : ∃ v, q_xv w.1 w.2.2 F[i] = v := ⟨_, rfl⟩
  rw [hv] at X ⊢
  have val : ∃ st1, R = some (iN (q_vkd v), iN (124000 + (q_vln v)), iN 124000, iN 4100, false, st1) ∧ (∀ z, v = some z → sm st1 124000 z.2 ∧ q_ok 16 z.1 z.2 ∧ z.2.length ≤ 2000) ∧ (∀ j, j < 124000 ∨ 128100 ≤ j → st1 j = st j) := by
    cases v with
    | none =>
      have X : R = some (iN 0, iN 124000, iN 124000, iN 4100, false, st) := X
      exact ⟨st, X, (fun z q => by cases q), fun _ _ => rfl⟩
    | some z =>
      obtain ⟨st1, x1, x2, x3⟩ := X
      obtain ⟨zl, zo⟩ := q_xvp ho d2 d3 (by omega) hv
      exact ⟨st1, x1, (fun z' q => by cases q; exact ⟨x2, q_okm zo (by omega), zl⟩), fun j hj => x3 j (by omega)⟩
  obtain ⟨st1, r1, r2, r3⟩ := val
  have hp1 : q_pst st1 x7 x8 o := q_psf hp (fun j u v => r3 j (by omega))
  have fr1 : ∀ j, j < 124000 ∨ 132300 ≤ j → st1 j = st j := fun j hj => r3 j (by omega)
  have len : iN (124000 + (q_vln v)) - (124000 : Int32) = iN (q_vln v) := by
    rw [show (124000 : Int32) = iN 124000 from rfl, iN_s (by omega), show 124000 + (q_vln v) - 124000 = (q_vln v) by omega]
  -- it is copied
  have copy : ∀ (y7 y8 : Int32) (y9 : Bool) (tp bg ms : Int32) (ov : Bool), ∃ x7' x8' f' tp' bg' ms' ov' st', tw_MO_pick_h183 fu dfl dcs frm grp (fun (x14_46 : Int32) (top_46 : Int32) (bgn_46 : Int32) (mst_46 : Int32) (ovr_46 : Bool) (st_46 : Nat → Int32) => C (iN (q_vkd v)) (iN (q_vln v)) true top_46 bgn_46 mst_46 ovr_46 st_46) x1 (iN e) (iN g) (iN wk) x5 x6 y7 y8 y9 (iN i) (iN (q_vln v)) fu 0 tp bg ms ov st1 = C x7' x8' f' tp' bg' ms' ov' st' ∧ q_pst st' x7' x8' v ∧ f' = true ∧ (∀ j, j < 124000 ∨ 132300 ≤ j → st' j = st j) := by
    intro y7 y8 y9 tp bg ms ov
    cases v with
    | none =>
      obtain ⟨st2, u1, u2, u3⟩ := r_183 (fu := fu) (dfl := dfl) (dcs := dcs) (frm := frm) (grp := grp) (top := tp) (bgn := bg) (mst := ms) (ovr := ov) (x9 := y9) (x1 := x1) (x2 := iN e) (x3 := iN g) (x4 := iN wk) (x5 := x5) (x6 := x6) (x7 := y7) (x8 := y8) (x10 := iN i) (C := fun (x14_46 : Int32) (top_46 : Int32) (bgn_46 : Int32) (mst_46 : Int32) (ovr_46 : Bool) (st_46 : Nat → Int32) => C (iN 0) (iN 0) true top_46 bgn_46 mst_46 ovr_46 st_46) [] [] fu st1 (by decide) (by show 0 < fu; omega) trivial trivial
      exact ⟨_, _, _, _, _, _, _, st2, u1, rfl, rfl, fun j hj => (u3 j (by omega)).trans (fr1 j hj)⟩
    | some z =>
      obtain ⟨z1, z2, z3⟩ := r2 z rfl
      obtain ⟨st2, u1, u2, u3⟩ := r_183 (fu := fu) (dfl := dfl) (dcs := dcs) (frm := frm) (grp := grp) (top := tp) (bgn := bg) (mst := ms) (ovr := ov) (x9 := y9) (x1 := x1) (x2 := iN e) (x3 := iN g) (x4 := iN wk) (x5 := x5) (x6 := x6) (x7 := y7) (x8 := y8) (x10 := iN i) (C := fun (x14_46 : Int32) (top_46 : Int32) (bgn_46 : Int32) (mst_46 : Int32) (ovr_46 : Bool) (st_46 : Nat → Int32) => C (iN z.1.toNat) (iN z.2.length) true top_46 bgn_46 mst_46 ovr_46 st_46) z.2 [] fu st1 (by rw [List.nil_append]; omega) (by omega) z1 trivial
      exact ⟨_, _, _, _, _, _, _, st2, u1, ⟨rfl, rfl, u2, z2, z3⟩, rfl, fun j hj => (u3 j (by omega)).trans (fr1 j hj)⟩
  rcases hwk with rfl | rfl | rfl | rfl
  · -- the least
    rw [if_neg (show ¬ iN 3 = 5 by decide), r1, obs6]
    unfold tw_MO_pick_r84 tw_MO_pick_r108
    rw [len, if_pos (show iN 3 ≤ 4 by decide)]
    try dsimp only
    rw [if_neg (show ¬ (5 : Int32) ≤ iN 3 by decide)]
    cases v with
    | none =>
      try dsimp only
      rw [if_pos (show iN (q_vkd none) = 0 from rfl), if_pos (show b2i false = 0 from rfl)]
      exact ⟨_, _, _, _, _, _, _, st1, rfl, hp1, rfl, fr1⟩
    | some z =>
      obtain ⟨z1, z2, z3⟩ := r2 z rfl
      have kz := q_okn z2
      try dsimp only at copy ⊢
      rw [if_neg (show ¬ iN (q_vkd (some z)) = 0 by show ¬ iN z.1.toNat = 0; simp (disch := omega) only [i_0, iN_a, iN_c, iN_le, iN_lt, iN_eq, iN_i]; omega)]
      cases o with
      | none =>
        have hp0 : x7 = 0 := hp
        rw [if_pos hp0, if_pos hp0]
        exact copy _ _ _ _ _ _ _
      | some u =>
        obtain ⟨p1, p2, p3, p4, p5⟩ := hp1
        have ku := q_okn p4
        have od := r_ord0 (fu := fu) (p := 124000) (q := 128200) (by omega) (Or.inl z2) (Or.inl p4) z1 p3 (by omega) (by omega) (by omega) (by omega) (by omega)
        change tw_MO_ord0 fu st1 (iN (q_vkd (some z))) 124000 (iN u.1.toNat) 128200 = some (q_ov2 20 z u) at od
        have s3 := q_ov3 20 z.1 z.2 u.1 u.2
        change q_s3 (q_ov2 20 z u) at s3
        have nx : ¬ x7 = 0 := by
          rw [p1]
          simp (disch := omega) only [i_0, iN_a, iN_c, iN_le, iN_lt, iN_eq, iN_i]
          omega
        rw [if_neg nx, p1, od, obs1]
        rw [p1] at nx
        rw [if_neg nx, if_pos (show iN 3 = 3 from rfl), if_neg (show ¬ iN 3 = 4 by decide)]
        try dsimp only
        show ∃ x7' x8' f' tp bg ms ov st', _ = C x7' x8' f' tp bg ms ov st' ∧ q_pst st' x7' x8' (if q_ov2 20 z u = -1 then some z else some u) ∧ _ ∧ _
        rcases s3 with s | s | s
        · rw [s, if_neg (by decide), if_neg (by decide)]
          exact ⟨_, _, _, _, _, _, _, st1, rfl, ⟨rfl, p2, p3, p4, p5⟩, rfl, fr1⟩
        · rw [s, if_neg (by decide), if_neg (by decide)]
          exact ⟨_, _, _, _, _, _, _, st1, rfl, ⟨rfl, p2, p3, p4, p5⟩, rfl, fr1⟩
        · rw [s, if_pos (by decide), if_pos rfl]
          exact copy _ _ _ _ _ _ _
  · -- the greatest
    rw [if_neg (show ¬ iN 4 = 5 by decide), r1, obs6]
    unfold tw_MO_pick_r84 tw_MO_pick_r108
    rw [len, if_pos (show iN 4 ≤ 4 by decide)]
    try dsimp only
    rw [if_neg (show ¬ (5 : Int32) ≤ iN 4 by decide)]
    cases v with
    | none =>
      try dsimp only
      rw [if_pos (show iN (q_vkd none) = 0 from rfl), if_pos (show b2i false = 0 from rfl)]
      exact ⟨_, _, _, _, _, _, _, st1, rfl, hp1, rfl, fr1⟩
    | some z =>
      obtain ⟨z1, z2, z3⟩ := r2 z rfl
      have kz := q_okn z2
      try dsimp only at copy ⊢
      rw [if_neg (show ¬ iN (q_vkd (some z)) = 0 by show ¬ iN z.1.toNat = 0; simp (disch := omega) only [i_0, iN_a, iN_c, iN_le, iN_lt, iN_eq, iN_i]; omega)]
      cases o with
      | none =>
        have hp0 : x7 = 0 := hp
        rw [if_pos hp0, if_pos hp0]
        exact copy _ _ _ _ _ _ _
      | some u =>
        obtain ⟨p1, p2, p3, p4, p5⟩ := hp1
        have ku := q_okn p4
        have od := r_ord0 (fu := fu) (p := 124000) (q := 128200) (by omega) (Or.inl z2) (Or.inl p4) z1 p3 (by omega) (by omega) (by omega) (by omega) (by omega)
        change tw_MO_ord0 fu st1 (iN (q_vkd (some z))) 124000 (iN u.1.toNat) 128200 = some (q_ov2 20 z u) at od
        have s3 := q_ov3 20 z.1 z.2 u.1 u.2
        change q_s3 (q_ov2 20 z u) at s3
        have nx : ¬ x7 = 0 := by
          rw [p1]
          simp (disch := omega) only [i_0, iN_a, iN_c, iN_le, iN_lt, iN_eq, iN_i]
          omega
        rw [if_neg nx, p1, od, obs1]
        rw [p1] at nx
        rw [if_neg nx, if_neg (show ¬ iN 4 = 3 by decide), if_pos (show iN 4 = 4 from rfl)]
        try dsimp only
        show ∃ x7' x8' f' tp bg ms ov st', _ = C x7' x8' f' tp bg ms ov st' ∧ q_pst st' x7' x8' (if -(q_ov2 20 z u) = -1 then some z else some u) ∧ _ ∧ _
        rcases s3 with s | s | s
        · rw [s, if_pos (by decide), if_neg (by decide)]
          exact ⟨_, _, _, _, _, _, _, st1, rfl, ⟨rfl, p2, p3, p4, p5⟩, rfl, fr1⟩
        · rw [s, if_neg (by decide), if_pos rfl]
          exact copy _ _ _ _ _ _ _
        · rw [s, if_pos (by decide), if_neg (by decide)]
          exact ⟨_, _, _, _, _, _, _, st1, rfl, ⟨rfl, p2, p3, p4, p5⟩, rfl, fr1⟩
  · -- the first
    rw [if_pos (show iN 5 = 5 from rfl)]
    cases f with
    | true =>
      rw [if_neg (show ¬ b2i true = 0 by decide)]
      exact ⟨_, _, _, _, _, _, _, st, rfl, hp, rfl, fun _ _ => rfl⟩
    | false =>
      rw [if_pos (show b2i false = 0 from rfl), r1, obs6]
      unfold tw_MO_pick_r84
      rw [len, if_neg (show ¬ iN 5 ≤ 4 by decide)]
      try dsimp only
      rw [if_pos (show (5 : Int32) ≤ iN 5 by decide), if_neg (show ¬ b2i true = 0 by decide)]
      exact copy _ _ _ _ _ _ _
  · -- the last
    rw [if_neg (show ¬ iN 6 = 5 by decide), r1, obs6]
    unfold tw_MO_pick_r84
    rw [len, if_neg (show ¬ iN 6 ≤ 4 by decide)]
    try dsimp only
    rw [if_pos (show (5 : Int32) ≤ iN 6 by decide), if_neg (show ¬ b2i true = 0 by decide)]
    exact copy _ _ _ _ _ _ _
