/-! the pure part: the class collects a group's values; do all sums hold -/
theorem q_lns {F : List (List UInt8)} {l m : List Nat} (h : l.Sublist m) : q_ln F l ≤ q_ln F m := by
  induction h with
  | slnil => exact Nat.le_refl _
  | cons a _ ih =>
    unfold q_ln at *
    rw [List.map_cons, List.sum_cons]
    omega
  | cons_cons a _ ih =>
    unfold q_ln at *
    rw [List.map_cons, List.sum_cons, List.map_cons, List.sum_cons]
    omega
theorem q_lnr (F : List (List UInt8)) : q_ln F (List.range F.length) = F.flatten.length := by
  unfold q_ln
  rw [List.length_flatten]
  congr 1
  apply List.ext_getElem
  · rw [List.length_map, List.length_map, List.length_range]
  · intro i h1 h2
    rw [List.length_map] at h2
    rw [List.getElem_map, List.getElem_map, List.getElem_range, q_gdd (List.getElem?_eq_getElem h2)]
theorem q_lng (K : Nat → q_V) (F : List (List UInt8)) (g : Nat) : q_ln F (q_gm K F.length g) ≤ F.flatten.length := by
  rw [← q_lnr]
  exact q_lns List.filter_sublist
theorem q_gmlen (K : Nat → q_V) (n g : Nat) : (q_gm K n g).length ≤ n := by
  have := (List.filter_sublist (l := List.range n) (p := fun i => decide (q_gn K i = g))).length_le
  rw [List.length_range] at this
  exact this
def q_told (y : q_P) : q_P := (q_ps y.2.2).headD (0, [], [])
theorem q_gp0 {y : q_P} (h : q_gpf y = 0) : q_pln y.2.1 = true ∧ y.1 = 3 ∧ q_ps y.2.2 = [q_told y] ∧ q_wk (q_told y).2.1 ≠ 0 ∧ q_xf (q_told y).1 (q_told y).2.2 = 0 := by
  unfold q_gpf at h
  by_cases c1 : q_pln y.2.1 = true
  rotate_left
  · rw [if_neg c1] at h
    cases h
  rw [if_pos c1] at h
  by_cases c2 : y.1 = 3
  rotate_left
  · rw [if_neg c2] at h
    cases h
  rw [if_pos c2] at h
  refine ⟨c1, c2, ?_⟩
  unfold q_told
  cases hq : q_ps y.2.2 with
  | nil =>
    rw [hq] at h
    cases h
  | cons w r =>
    rw [hq] at h
    cases r with
    | cons u r => cases h
    | nil =>
      have h : (if q_wk w.2.1 = 0 then 2 else if q_wk w.2.1 = 1 then (if w.1 = 10 then 0 else 2) else q_xf w.1 w.2.2) = 0 := h
      show [w] = [w] ∧ q_wk w.2.1 ≠ 0 ∧ q_xf w.1 w.2.2 = 0
      by_cases k0 : q_wk w.2.1 = 0
      · rw [if_pos k0] at h
        cases h
      rw [if_neg k0] at h
      refine ⟨rfl, k0, ?_⟩
      by_cases k1 : q_wk w.2.1 = 1
      · rw [if_pos k1] at h
        by_cases k10 : w.1 = 10
        · unfold q_xf q_ex
          rw [k10]
          rfl
        · rw [if_neg k10] at h
          cases h
      · rw [if_neg k1] at h
        exact h
theorem q_gff0 {y : q_P} : ∀ {ps : List q_P}, q_gff ps = 0 → y ∈ ps → q_gpf y = 0 := by
  intro ps
  induction ps with
  | nil => exact fun _ h => by cases h
  | cons x r ih =>
    intro h hy
    rw [q_gffc] at h
    by_cases c : q_gpf x = 0
    · rw [if_pos c] at h
      rcases List.mem_cons.1 hy with e | e
      · rw [e]
        exact c
      · exact ih h e
    · rw [if_neg c] at h
      exact absurd h c
/-- a part on the tape: what tells what to gather lies within -/
theorem q_ptl {b : Nat → UInt8} {e d : Nat} {y : q_P} (h1 : sb b e (q_e1 y)) (ho : q_ok d y.1 y.2.2) (he : e + (q_e1 y).length ≤ 2000) (hg : q_gpf y = 0) :
    ∃ d' W, d' ≤ d ∧ q_ok d' (q_told y).1 (q_told y).2.2 ∧ sb b W (q_told y).2.2 ∧ W + (q_told y).2.2.length ≤ 2000 ∧ tw_GR_toldBy b (iN (32 * (e + y.2.1.length + 2) + y.1.toNat)) = iN (32 * W + (q_told y).1.toNat) ∧ tw_GR_workOf b (iN (32 * (e + y.2.1.length + 2) + y.1.toNat)) = iN (q_wk (q_told y).2.1) := by
  obtain ⟨_, y3, psy, _, _⟩ := q_gp0 hg
  have e1 := q_e1l y
  have ky := (q_okn ho).1
  have s1 := sb_e1 h1
  have ho3 := ho
  rw [y3] at ho3
  obtain ⟨e', ws, de, ew, o1, o2⟩ := q_okd ho3 (Or.inl rfl)
  have sv := s1.2.2.2
  rw [ew] at sv
  have bl := q_bxl ws
  have yl : y.2.2.length = (q_bx ws).length := by rw [ew]
  have psw : q_ps y.2.2 = ws := q_psb' ew o1 (by omega)
  rw [psy] at psw
  subst psw
  generalize q_told y = w at *
  have wm := o1 w List.mem_cons_self
  have sw := (sb_en (sb_bx sv).2.1).1
  have w1 := q_e1l w
  have wl : (q_en [w]).length = (q_e1 w).length := by
    rw [q_enc]
    simp [q_en]
  have kw := (q_okn wm.2).1
  refine ⟨e', e + y.2.1.length + 2 + 4 + w.2.1.length + 2, by omega, wm.2, (sb_e1 sw).2.2.2, by omega, ?_, c_wk (Or.inl y3) sv o1 (by omega)⟩
  unfold tw_GR_toldBy
  rw [show tw_ST_placeOf (iN (32 * (e + y.2.1.length + 2) + y.1.toNat)) = iN (e + y.2.1.length + 2) from q_p (by omega) ky, show iN (e + y.2.1.length + 2) + 4 = iN (e + y.2.1.length + 2 + 4) from iN_a _ 4, q_vo sw kw wm.1 (by omega)]
theorem c_col {b : Nat → UInt8} {fb T e d g : Nat} {fcnt ngr held vplace vlimit : Int32} {vfull : Bool} {fsts : Nat → Int32} {F : List (List UInt8)} {K : Nat → q_V} {y : q_P} {pcnt pown : Int32} {pfix : Bool} {pst pen pix gky ghs gfi gla gnx gvl : Nat → Int32} (h1 : sb b e (q_e1 y)) (ho : q_ok d y.1 y.2.2) (hd16 : d ≤ 16) (he : e + (q_e1 y).length ≤ 2000) (hgp : q_gpf y = 0) (hb : q_be b fb fcnt fsts F) (hG : q_GI fb T b K F.length ngr gky ghs gfi gla gnx) (hg : g < (q_gf K F.length).length) :
    ∃ b' t' pc pf po ps pe px gvl', tw_GR_collect (iN fb) fcnt fsts gfi gnx held b pcnt pfix pown vplace vlimit vfull pst pen pix gvl (iN (32 * (e + y.2.1.length + 2) + y.1.toNat)) (iN g) = (iN (q_gv (q_told y) F (q_gm K F.length g)).length, b', pc, pf, po, iN t', iN 202000, false, ps, pe, px, gvl') ∧ q_vr fb t' b' gvl' (q_gv (q_told y) F (q_gm K F.length g)) ∧ (∀ j, j < 162000 → b' j = b j) := by
  obtain ⟨d', W, w1, w2, w3, w4, w5, _⟩ := q_ptl h1 ho he hgp
  obtain ⟨_, _, _, _, xf⟩ := q_gp0 hgp
  have F1 := hb.2.2.2.1.1
  have F2 := hb.2.2.2.1.2.1
  have fl := q_gfl K F.length
  obtain ⟨_, _, k3, _, k5, k6⟩ := hG.2 g _ (List.getElem?_eq_getElem hg)
  obtain ⟨pc, pf, po, ps, pe, px, r1, r2⟩ := (c_re (pcnt := pcnt) (pown := pown) (pfix := pfix) (pst := pst) (pen := pen) (pix := pix) w2 w3 w4).1 xf
  have ln := q_lng K F g
  have ml := q_gmlen K F.length g
  unfold tw_GR_collect
  rw [show (162000 : Int32) = iN 162000 from rfl, c_mra (by omega), q_tp3]
  try dsimp only
  rw [w5, r1, q_tp7]
  try dsimp only
  rw [if_neg (show ¬ b2i true = 0 by decide), iN_c (by omega)]
  obtain ⟨b', t', gvl', u1, u2, u3, u4⟩ := c_cl_h (fcnt := fcnt) (fsts := fsts) (gfi := gfi) (F := F) w2 (by omega) w4 (q_gm K F.length g) [] (gfi g) (((200 : Int32).toInt - (0 : Int32).toInt).toNat + 1) 162000 b gvl (fun m hm => (q_gmm hm).1) (by
    rw [k3]
    cases hq : q_gm K F.length g with
    | nil => exact absurd hq k5
    | cons u r => rfl) k6 (by rw [show ((200 : Int32).toInt - (0 : Int32).toInt).toNat + 1 = 201 from rfl]; omega) (by rw [List.length_nil]; omega) (by omega) (by omega) w3 r2 hb (fun j z hj => by cases hj)
  rw [List.length_nil, Nat.zero_add] at u1
  refine ⟨b', t', pc, pf, po, ps, pe, px, gvl', ?_, u3, u4⟩
  show tw_GR_collect_h40 (iN fb) fcnt fsts gfi gnx _ (gfi g) (iN 0) (iN 0) b pc pf po (iN 162000) (iN (162000 + 40000)) false ps pe px gvl = _
  rw [u1]
  unfold q_gv
  rw [List.length_map]
theorem q_tp12 {T1 T2 T3 T4 T5 T6 T7 T8 T9 T10 T11 T12 Z : Type} (x1 : T1) (x2 : T2) (x3 : T3) (x4 : T4) (x5 : T5) (x6 : T6) (x7 : T7) (x8 : T8) (x9 : T9) (x10 : T10) (x11 : T11) (x12 : T12) (f : T1 → T2 → T3 → T4 → T5 → T6 → T7 → T8 → T9 → T10 → T11 → T12 → Z) : tp12 (x1, x2, x3, x4, x5, x6, x7, x8, x9, x10, x11, x12) f = f x1 x2 x3 x4 x5 x6 x7 x8 x9 x10 x11 x12 := rfl
/-- the sum of a part in a group holds -/
def q_gsh (K : Nat → q_V) (F : List (List UInt8)) (y : q_P) (g : Nat) : Bool := q_in6 (q_sm1 (q_gv (q_told y) F (q_gm K F.length g)))
abbrev q_S14 : Type := Bool × Int32 × Int64 × (Nat → UInt8) × Int32 × Bool × Int32 × Int32 × Int32 × Bool × (Nat → Int32) × (Nat → Int32) × (Nat → Int32) × (Nat → Int32)
theorem c_sh1 {fb T e d : Nat} {fcnt ngr : Int32} {fsts gky ghs gfi gla gnx : Nat → Int32} {F : List (List UInt8)} {K : Nat → q_V} {y : q_P} {x2 x4 : Int32} {C : Int32 → Int32 → Int64 → (Nat → UInt8) → Int32 → Bool → Int32 → Int32 → Int32 → Bool → (Nat → Int32) → (Nat → Int32) → (Nat → Int32) → (Nat → Int32) → q_S14} (hT : T ≤ 162000) (ho : q_ok d y.1 y.2.2) (hd16 : d ≤ 16) (he : e + (q_e1 y).length ≤ 2000) (hgp : q_gpf y = 0) :
    ∀ (m g n : Nat) (held : Int32) (gsum : Int64) (b : Nat → UInt8) (pcnt : Int32) (pfix : Bool) (pown vplace vlimit : Int32) (vfull : Bool) (pst pen pix gvl : Nat → Int32), g + m = (q_gf K F.length).length → m < n → sb b e (q_e1 y) → q_be b fb fcnt fsts F → q_GI fb T b K F.length ngr gky ghs gfi gla gnx →
    ∃ h' s' b' pc pf po vp vl vf ps pe px gv, (∀ j, j < 162000 → b' j = b j) ∧ tw_GR_sumsHold_h69 (iN fb) ngr fcnt fsts gfi gnx C x2 x4 (iN (32 * (e + y.2.1.length + 2) + y.1.toNat)) 1 n (iN g) held gsum b pcnt pfix pown vplace vlimit vfull pst pen pix gvl = if ((List.range (q_gf K F.length).length).drop g).all (q_gsh K F y) = true then C ngr h' s' b' pc pf po vp vl vf ps pe px gv else (false, h', s', b', pc, pf, po, vp, vl, vf, ps, pe, px, gv) := by
  intro m
  induction m with
  | zero =>
    intro g n held gsum b pcnt pfix pown vplace vlimit vfull pst pen pix gvl hg hn hs hb hG
    obtain ⟨n, rfl⟩ : ∃ m, n = m + 1 := ⟨n - 1, by omega⟩
    have : g = (q_gf K F.length).length := by omega
    subst this
    refine ⟨held, gsum, b, pcnt, pfix, pown, vplace, vlimit, vfull, pst, pen, pix, gvl, fun _ _ => rfl, ?_⟩
    unfold tw_GR_sumsHold_h69
    rw [if_neg (show ¬ (1 : Int32) = 0 by decide), if_pos (by rw [hG.1]; exact Int32.le_refl _), List.drop_eq_nil_of_le (by rw [List.length_range]; exact Nat.le_refl _), if_pos (show ([] : List Nat).all (q_gsh K F y) = true from rfl), ← hG.1]
  | succ m ih =>
    intro g n held gsum b pcnt pfix pown vplace vlimit vfull pst pen pix gvl hg hn hs hb hG
    obtain ⟨n, rfl⟩ : ∃ m, n = m + 1 := ⟨n - 1, by omega⟩
    have F1 := hb.2.2.2.1.1
    have F5 := hb.2.2.2.2.1
    have F2 := hb.2.2.2.1.2.1
    have fl := q_gfl K F.length
    have gl : g < (q_gf K F.length).length := by omega
    obtain ⟨b1, t1, pc, pf, po, ps, pe, px, gv1, c1, c2, c3⟩ := c_col (held := held) (vplace := vplace) (vlimit := vlimit) (vfull := vfull) (pcnt := pcnt) (pown := pown) (pfix := pfix) (pst := pst) (pen := pen) (pix := pix) (gvl := gvl) hs ho hd16 he hgp hb hG gl
    have vl : (q_gv (q_told y) F (q_gm K F.length g)).length ≤ 200 := by
      unfold q_gv
      rw [List.length_map]
      have := q_gmlen K F.length g
      omega
    obtain ⟨gs, a1, a2⟩ := c_au (gsum := gsum) c2 vl
    unfold tw_GR_sumsHold_h69
    rw [if_neg (show ¬ (1 : Int32) = 0 by decide), if_neg (by rw [hG.1]; simp (disch := omega) only [iN_a, iN_c, iN_le, iN_lt, iN_eq, iN_i]; omega), c1, q_tp12, a1, q_tp2]
    try dsimp only
    have dr : (List.range (q_gf K F.length).length).drop g = g :: (List.range (q_gf K F.length).length).drop (g + 1) := by
      rw [List.drop_eq_getElem_cons (by rw [List.length_range]; exact gl), List.getElem_range]
    rw [dr, List.all_cons]
    have eq : q_in6 (q_sm1 (q_gv (q_told y) F (q_gm K F.length g))) = q_gsh K F y g := rfl
    rw [eq]
    cases hq : q_gsh K F y g with
    | false =>
      rw [if_pos (show b2i false = 0 from rfl), Bool.false_and]
      exact ⟨_, _, _, _, _, _, _, _, _, _, _, _, _, c3, (if_neg (show ¬ false = true by decide)).symm⟩
    | true =>
      rw [if_neg (show ¬ b2i true = 0 by decide), Bool.true_and, show iN g + 1 = iN (g + 1) from iN_a g 1]
      obtain ⟨h', s', b', pc', pf', po', vp', vl', vf', ps', pe', px', gv', u1, u2⟩ := ih (g + 1) n (iN (q_gv (q_told y) F (q_gm K F.length g)).length) gs b1 pc pf po (iN t1) (iN 202000) false ps pe px gv1 (by omega) (by omega) (sb_fr hs (fun j u v => c3 j (by omega))) (q_bef hb (fun j u v => c3 j (by omega))) (q_GIf hG (Nat.le_refl _) (fun j hj => c3 j (by omega)))
      exact ⟨h', s', b', pc', pf', po', vp', vl', vf', ps', pe', px', gv', fun j hj => (u1 j hj).trans (c3 j hj), u2⟩
def q_hld (K : Nat → q_V) (F : List (List UInt8)) (ps : List q_P) : Bool := ps.all (fun y => decide (q_wk (q_told y).2.1 ≠ 2) || (List.range (q_gf K F.length).length).all (q_gsh K F y))
theorem c_69z {fbase ngr fcnt x2 x4 x5 x7 held pcnt pown vplace vlimit : Int32} {gsum : Int64} {pfix vfull : Bool} {b : Nat → UInt8} {fsts gfi gnx pst pen pix gvl : Nat → Int32} {n : Nat} {C : Int32 → Int32 → Int64 → (Nat → UInt8) → Int32 → Bool → Int32 → Int32 → Int32 → Bool → (Nat → Int32) → (Nat → Int32) → (Nat → Int32) → (Nat → Int32) → q_S14} (hn : 0 < n) :
    tw_GR_sumsHold_h69 fbase ngr fcnt fsts gfi gnx C x2 x4 x5 0 n x7 held gsum b pcnt pfix pown vplace vlimit vfull pst pen pix gvl = C x7 held gsum b pcnt pfix pown vplace vlimit vfull pst pen pix gvl := by
  obtain ⟨n, rfl⟩ : ∃ m, n = m + 1 := ⟨n - 1, by omega⟩
  unfold tw_GR_sumsHold_h69
  rw [if_pos (show (0 : Int32) = 0 from rfl)]
theorem c_sh2 {fb T d E : Nat} {fcnt ngr : Int32} {fsts gky ghs gfi gla gnx : Nat → Int32} {F : List (List UInt8)} {K : Nat → q_V} (hT : T ≤ 162000) (hd16 : d ≤ 16) (hE : E < 2000) :
    ∀ (ps : List q_P) (e n i : Nat) (held : Int32) (gsum : Int64) (b : Nat → UInt8) (pcnt : Int32) (pfix : Bool) (pown vplace vlimit : Int32) (vfull : Bool) (pst pen pix gvl : Nat → Int32), sb b e (q_en ps) → q_op d ps → q_gff ps = 0 → E = e + (q_en ps).length → ps.length < n → 0 < i → i + ps.length ≤ 1000 → q_be b fb fcnt fsts F → q_GI fb T b K F.length ngr gky ghs gfi gla gnx →
    ∃ h' s' b' pc pf po vp vl vf ps' pe px gv, (∀ j, j < 162000 → b' j = b j) ∧ tw_GR_sumsHold_h21 (iN fb) ngr fcnt fsts gfi gnx (iN E) n (iN e) (iN i) held gsum b pcnt pfix pown vplace vlimit vfull pst pen pix gvl = (q_hld K F ps, h', s', b', pc, pf, po, vp, vl, vf, ps', pe, px, gv) := by
  intro ps
  induction ps with
  | nil =>
    intro e n i held gsum b pcnt pfix pown vplace vlimit vfull pst pen pix gvl _ _ _ he hn _ hi hb hG
    obtain ⟨n, rfl⟩ : ∃ m, n = m + 1 := ⟨n - 1, by omega⟩
    simp only [q_en, List.length_nil, Nat.add_zero] at he
    subst he
    unfold tw_GR_sumsHold_h21
    rw [if_pos (Int32.le_refl _), ite_self]
    exact ⟨_, _, b, _, _, _, _, _, _, _, _, _, _, fun _ _ => rfl, rfl⟩
  | cons y r ih =>
    intro e n i held gsum b pcnt pfix pown vplace vlimit vfull pst pen pix gvl h ho hgf he hn hi0 hi hb hG
    rw [List.length_cons] at hn hi
    obtain ⟨n, rfl⟩ : ∃ m, n = m + 1 := ⟨n - 1, by omega⟩
    obtain ⟨h1, h2⟩ := sb_en h
    obtain ⟨ha, hy⟩ := ho y List.mem_cons_self
    have F1 := hb.2.2.2.1.1
    have F2 := hb.2.2.2.1.2.1
    have F5 := hb.2.2.2.2.1
    have fl := q_gfl K F.length
    have e1 := q_e1l y
    have e2 := q_enl y r
    have ky := (q_okn hy).1
    have s1 := sb_e1 h1
    have gp := q_gff0 hgf List.mem_cons_self
    have gr : q_gff r = 0 := by
      rw [q_gffc, if_pos gp] at hgf
      exact hgf
    obtain ⟨_, _, _, _, _, _, _, wk⟩ := q_ptl h1 hy (by omega) gp
    have w9 := q_wk9 (q_told y).2.1
    have nx : ∀ (b1 : Nat → UInt8) (h' : Int32) (s' : Int64) (pc : Int32) (pf : Bool) (po vp vl : Int32) (vf : Bool) (ps' pe px gv : Nat → Int32), (∀ j, j < 162000 → b1 j = b j) → ∃ h2 s2 b2 pc2 pf2 po2 vp2 vl2 vf2 ps2 pe2 px2 gv2, (∀ j, j < 162000 → b2 j = b j) ∧ tw_GR_sumsHold_h21 (iN fb) ngr fcnt fsts gfi gnx (iN E) n (tw_ST_endOf b1 (iN (32 * (e + y.2.1.length + 2) + y.1.toNat))) (iN i + 1) h' s' b1 pc pf po vp vl vf ps' pe px gv = (q_hld K F r, h2, s2, b2, pc2, pf2, po2, vp2, vl2, vf2, ps2, pe2, px2, gv2) := by
      intro b1 h' s' pc pf po vp vl vf ps' pe px gv hf
      rw [q_eo hy (sb_fr s1.2.2.2 (fun j u v => hf j (by omega))) (by omega), show iN i + 1 = iN (i + 1) from iN_a i 1, show e + y.2.1.length + 2 + y.2.2.length = e + (q_e1 y).length by omega]
      obtain ⟨a1, a2, a3, a4, a5, a6, a7, a8, a9, a10, a11, a12, a13, u1, u2⟩ := ih (e + (q_e1 y).length) n (i + 1) h' s' b1 pc pf po vp vl vf ps' pe px gv (sb_fr h2 (fun j u v => hf j (by omega))) (fun u hu => ho u (List.mem_cons_of_mem _ hu)) gr (by omega) (by omega) (by omega) (by omega) (q_bef hb (fun j u v => hf j (by omega))) (q_GIf hG (Nat.le_refl _) (fun j hj => hf j (by omega)))
      exact ⟨a1, a2, a3, a4, a5, a6, a7, a8, a9, a10, a11, a12, a13, fun j hj => (u1 j hj).trans (hf j hj), u2⟩
    unfold tw_GR_sumsHold_h21
    rw [if_neg (by simp (disch := omega) only [i_1000, iN_a, iN_c, iN_le, iN_lt, iN_eq, iN_i]; omega), if_neg (by simp (disch := omega) only [iN_a, iN_c, iN_le, iN_lt, iN_eq, iN_i]; omega), if_neg (by simp (disch := omega) only [i_0, iN_a, iN_c, iN_le, iN_lt, iN_eq, iN_i]; omega), q_vo h1 ky ha (by omega), wk]
    have hq : q_hld K F (y :: r) = ((decide (q_wk (q_told y).2.1 ≠ 2) || (List.range (q_gf K F.length).length).all (q_gsh K F y)) && q_hld K F r) := List.all_cons
    rw [hq]
    by_cases c : q_wk (q_told y).2.1 = 2
    · rw [if_pos (show iN (q_wk (q_told y).2.1) = 2 by rw [c]; rfl), decide_eq_false (fun z => z c), Bool.false_or]
      obtain ⟨h', s', b', pc, pf, po, vp, vl, vf, ps', pe, px, gv, u1, u2⟩ := c_sh1 (x2 := iN E) (x4 := iN i) (C := fun (x7_12 : Int32) (held_12 : Int32) (gsum_12 : Int64) (b_12 : Nat → UInt8) (pcnt_12 : Int32) (pfix_12 : Bool) (pown_12 : Int32) (vplace_12 : Int32) (vlimit_12 : Int32) (vfull_12 : Bool) (pst_12 : Nat → Int32) (pen_12 : Nat → Int32) (pix_12 : Nat → Int32) (gvl_12 : Nat → Int32) =>
                tw_GR_sumsHold_h21 (iN fb) ngr fcnt fsts gfi gnx (iN E) n (tw_ST_endOf b_12 (iN (32 * (e + y.2.1.length + 2) + y.1.toNat))) (iN i + 1) held_12 gsum_12 b_12 pcnt_12 pfix_12 pown_12 vplace_12 vlimit_12 vfull_12 pst_12 pen_12 pix_12 gvl_12) hT hy hd16 (by omega) gp (q_gf K F.length).length 0 ((ngr.toInt - (0 : Int32).toInt).toNat + 1) held gsum b pcnt pfix pown vplace vlimit vfull pst pen pix gvl (by omega) (by rw [hG.1, iN_i (by omega)]; show _ < (((q_gf K F.length).length : Nat) - (0 : Int)).toNat + 1; omega) h1 hb hG
      rw [List.drop_zero] at u2
      rw [show (0 : Int32) = iN 0 from rfl] at *
      rw [u2]
      cases hz : (List.range (q_gf K F.length).length).all (q_gsh K F y) with
      | false =>
        rw [if_neg (show ¬ false = true by decide), Bool.false_and]
        exact ⟨_, _, _, _, _, _, _, _, _, _, _, _, _, u1, rfl⟩
      | true =>
        rw [if_pos (show true = true from rfl), Bool.true_and]
        exact nx b' h' s' pc pf po vp vl vf ps' pe px gv u1
    · rw [if_neg (by simp (disch := omega) only [i_2, iN_a, iN_c, iN_le, iN_lt, iN_eq, iN_i]; omega), decide_eq_true c, Bool.true_or, Bool.true_and, c_69z (by omega)]
      exact nx b held gsum pcnt pfix pown vplace vlimit vfull pst pen pix gvl (fun _ _ => rfl)
