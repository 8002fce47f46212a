/-! the pure part: $project as a whole (class); the reference's elements -/
theorem q_pjx {ps : List q_P} (h : q_pjf ps = 0) : ∀ x ∈ ps, q_xf x.1 x.2.2 = 0 := by
  induction ps with
  | nil =>
    intro x hx
    cases hx
  | cons y r ih =>
    rw [q_pjfc] at h
    split at h
    · split at h
      · next c =>
        intro x hx
        rcases List.mem_cons.1 hx with rfl | hx
        · exact c
        · exact ih h x hx
      · cases h
    · cases h
theorem q_pj3 (ps : List q_P) : q_pjf ps ≤ 3 := by
  induction ps with
  | nil => exact Nat.zero_le _
  | cons y r ih =>
    rw [q_pjfc]
    split
    · split
      · exact ih
      · exact Nat.le_refl _
    · omega
def q_ft1 (k : UInt8) (v : List UInt8) : Nat := if k = 3 then q_pf1 (q_ps v) else 2
theorem q_ft1l (k : UInt8) (v : List UInt8) : q_ft1 k v ≤ 3 := by
  unfold q_ft1
  split
  · unfold q_pf1
    split
    · omega
    · exact q_pj3 _
  · omega
def q_ans (ft : Nat) (N : Option (List (List UInt8))) : Int32 := if ft = 0 then q_05 N else iN ft
theorem c_pj {b : Nat → UInt8} {fb nb p D : Nat} {fcnt ncnt place limit : Int32} {full : Bool} {fsts nsts : Nat → Int32} {F : List (List UInt8)} {k : UInt8} {v : List UInt8} {pcnt pown vplace vlimit : Int32} {pfix vfull : Bool} {pst pen pix : Nat → Int32} (hd : fb + 40000 ≤ nb ∨ nb + 40000 ≤ fb) (hb : q_be b fb fcnt fsts F) (h : q_be b nb ncnt nsts []) (ho : q_ok D k v) (hD : D ≤ 16) (hs : sb b p v) (hp : p + v.length ≤ 2000) :
    ∃ pl l f b' c s pc pf po vp vl vf ps' pe px M, tw_SH_project (iN nb) (iN fb) fcnt fsts place limit full b ncnt nsts pcnt pfix pown vplace vlimit vfull pst pen pix (iN (32 * p + k.toNat)) = (q_ans (q_ft1 k v) (q_run (some []) (F.map (q_pjD (q_ps v)))), pl, l, f, b', c, s, pc, pf, po, vp, vl, vf, ps', pe, px) ∧ q_be b' nb c s M ∧ (∀ R, q_run (some []) (F.map (q_pjD (q_ps v))) = some R → q_ft1 k v = 0 → M = R) ∧ (∀ j, j < 162000 → j < nb ∨ nb + 40000 ≤ j → b' j = b j) := by
  obtain ⟨pc, pf, po, ps', pe, px, e1⟩ := c_pjf (pcnt := pcnt) (pown := pown) (pfix := pfix) (pst := pst) (pen := pen) (pix := pix) ho hs hp
  have F1 := hb.2.2.2.1.1
  have e1 : tw_SH_faultOfProject b pcnt pfix pown pst pen pix (iN (32 * p + k.toNat)) = (iN (q_ft1 k v), pc, pf, po, ps', pe, px) := e1
  unfold tw_SH_project q_ans
  rw [e1, q_tp7]
  dsimp only
  have l3 := q_ft1l k v
  by_cases c : q_ft1 k v = 0
  · rw [if_pos c, c, hb.1]
    unfold q_ft1 at c
    by_cases k3 : k = 3
    rotate_left
    · rw [if_neg k3] at c
      cases c
    rw [if_pos k3] at c
    subst k3
    obtain ⟨e, ps, he, rfl, o1, o2⟩ := q_okd ho (Or.inl rfl)
    rw [q_psb o1 (by omega)] at c ⊢
    have c' : q_pjf ps = 0 := by
      cases ps with
      | nil => cases c
      | cons x r => exact c
    obtain ⟨pl2, l2, f2, b2, c2, s2, pc2, pf2, po2, vp2, vl2, vf2, ps2, pe2, px2, M, t1, t2, t3, t4⟩ := c_pj_h (fb := fb) (nb := nb) (p := p) (fcnt := fcnt) (fsts := fsts) (F := F) hd hp o1 o2 (by omega) (q_pjx c') F.length 0 (((iN F.length).toInt - (0 : Int32).toInt).toNat + 1) b place limit full ncnt nsts [] pc pf po vplace vlimit vfull ps' pe px (by omega) (by rw [iN_i (by omega)]; show _ < ((F.length : Nat) - (0 : Int)).toNat + 1; omega) hs hb h
    rw [hb.1] at t1
    rw [List.drop_zero] at t1 t3
    exact ⟨pl2, l2, f2, b2, c2, s2, pc2, pf2, po2, vp2, vl2, vf2, ps2, pe2, px2, M, t1, t2, fun R q _ => t3 R q, t4⟩
  · rw [if_neg c]
    unfold tw_SH_project_h8
    rw [if_neg (by simp (disch := omega) only [i_0, iN_a, iN_c, iN_le, iN_lt, iN_eq, iN_i]; omega)]
    exact ⟨_, _, _, _, _, _, _, _, _, _, _, _, _, _, _, [], rfl, h, (fun R _ q => absurd q c), fun _ _ _ => rfl⟩
theorem q_Wm {g m t : Nat} {o : Bool} {st0 st' : Nat → Int32} {w : List UInt8} {r : q_R} (hL : g + m ≤ 124000) (h : q_W g m t o st0 w r) (hb : ∀ j, j < 124000 ∨ 128100 ≤ j → st' j = r.2.2 j) : ∃ st1, (∀ j, j < 124000 ∨ 128100 ≤ j → st1 j = st0 j) ∧ q_W g m t o st1 w (r.1, r.2.1, st') := by
  obtain ⟨h1, h2, h3, h4, h5⟩ := h
  refine ⟨fun j => if j < 124000 ∨ 128100 ≤ j then st0 j else st' j, fun j hj => if_pos hj, ?_, h2, h3, ?_, h5⟩
  · intro j hj
    show st' j = if j < 124000 ∨ 128100 ≤ j then st0 j else st' j
    by_cases c : j < 124000 ∨ 128100 ≤ j
    · rw [if_pos c, hb j c, h1 j hj]
    · rw [if_neg c]
  · intro q
    obtain ⟨a1, a2, a3⟩ := h4 q
    exact ⟨a1, a2, sm_fr a3 (fun j u v => hb j (by omega))⟩
theorem obs5 {T1 T2 T3 T4 T5 Z : Type} (x1 : T1) (x2 : T2) (x3 : T3) (x4 : T4) (x5 : T5) (f : T1 → T2 → T3 → T4 → T5 → Option Z) : ob5 (some (x1, x2, x3, x4, x5)) f = f x1 x2 x3 x4 x5 := rfl
def q_vw (nm : List UInt8) (z : Option q_V) : List UInt8 := match z with | none => [] | some z => q_e1 (z.1, nm, z.2)
/-- an element of a name with the VALUE of an expression, or none -/
theorem r_ve {fu e e2 P g d d2 : Nat} {st0 : Nat → Int32} {x y : q_P} {doc w : List UInt8} {r : q_R} (hf : 2500 ≤ fu) (hg : 80000 ≤ g) (hg2 : g ≤ 120000) (hr : q_W g 2001 g false st0 ([0, 0, 0, 0] ++ w) r) (hye : sm st0 e2 (q_e1 y)) (hym : (0 : UInt8) ∉ y.2.1) (hye2 : 128100 ≤ e2) (hye3 : e2 + (q_e1 y).length ≤ 136400) (hyl : (q_e1 y).length ≤ 2000)
    (h : sm st0 e (q_e1 x)) (hm : (0 : UInt8) ∉ x.2.1) (ho : q_ok d x.1 x.2.2) (he : e + (q_e1 x).length ≤ 136400) (he2 : 128100 ≤ e) (hl : (q_e1 x).length ≤ 2000) (hx : q_xf x.1 x.2.2 = 0)
    (hd : q_ok d2 3 doc) (hd2 : d2 ≤ 20) (hD : sm st0 P doc) (hP : P + doc.length ≤ 80000) (hv : doc.length ≤ 2000) :
    ∃ r' st1, tw_MO_valueElement fu (iN r.1) (iN g) (iN 2001) r.2.1 r.2.2 (iN e2) (iN P) (iN e) = some (iN r'.1, iN g, iN 2001, r'.2.1, r'.2.2) ∧ (∀ j, j < 124000 ∨ 128100 ≤ j → st1 j = st0 j) ∧
      q_W g 2001 g false st1 ([0, 0, 0, 0] ++ (w ++ q_vw y.2.1 (q_xv x.1 x.2.2 doc))) r' := by
  have ely := q_e1l y
  have r2 := hr.2.1
  have r3 := hr.2.2.1
  have hi : ∀ j, j < g ∨ g + 2001 ≤ j → r.2.2 j = st0 j := hr.1
  have X := r_ev (fu := fu) (g := 124000) (top := iN r.1) (bgn := iN g) (mst := iN 2001) (ovr := r.2.1) hf (sm_fr h (fun j u v => hi j (by omega))) hm ho he hl (by omega) hx hd hd2 (sm_fr hD (fun j u v => hi j (by omega))) (by omega) hv
  unfold tw_MO_valueElement
  rw [show (124000 : Int32) = iN 124000 from rfl]
  generalize tw_MO_evaluate fu (iN r.1) (iN g) (iN 2001) r.2.1 r.2.2 (iN e) (iN P) (iN 124000) = R at X ⊢
  cases hz : q_xv x.1 x.2.2 doc with
  | none =>
    rw [hz] at X
    have X' : R = some (iN 0, iN 124000, iN 124000, iN 4100, false, r.2.2) := X
    rw [X', obs6, if_pos (show iN 0 = 0 from rfl)]
    refine ⟨r, st0, rfl, fun _ _ => rfl, ?_⟩
    show q_W g 2001 g false st0 ([0, 0, 0, 0] ++ (w ++ [])) r
    rw [List.append_nil]
    exact hr
  | some z =>
    rw [hz] at X
    obtain ⟨st', x1, x2, x3⟩ := X
    obtain ⟨zl, zo⟩ := q_xvp ho hd hv (by have := q_e1l x; omega) hz
    have kz := q_okn zo
    obtain ⟨st1, m1, m2⟩ := q_Wm (st' := st') (by omega) hr (fun j hj => x3 j (by omega))
    rw [x1, obs6, if_neg (by simp (disch := omega) only [i_0, iN_a, iN_c, iN_le, iN_lt, iN_eq, iN_i]; omega)]
    obtain ⟨s, s1, s2⟩ := r_hd2 (fu := fu) (g := g) (m := 2001) (t := r.1) (e := e2) (o := r.2.1) (st := st') (k := z.1) (x := y) (by omega) r2 r3 (sm_fr hye (fun j u v => by rw [x3 j (by omega), hi j (by omega)])) hym (by omega) (by omega) (by omega)
    have s3 := s2.2.1
    obtain ⟨c, c1, c2⟩ := r_cp (fu := fu) (g := g) (m := 2001) (a := 124000) (t := s.1) (o := s.2.1) (st := s.2.2) (l := z.2) (by omega) (sm_fr x2 (fun j u v => s2.1 j (by omega))) (by omega) (by omega) (by omega) s2.2.2.1 (by omega)
    rw [s1, q_o3e, iN_s (by omega), show 124000 + z.2.length - 124000 = z.2.length by omega, c1, q_o3e]
    refine ⟨c, st1, rfl, m1, ?_⟩
    have W := q_Wa (q_Wa m2 s2) c2
    rw [show ([0, 0, 0, 0] ++ w) ++ (z.1 :: (y.2.1 ++ [0])) ++ z.2 = [0, 0, 0, 0] ++ (w ++ q_e1 (z.1, y.2.1, z.2)) by simp [q_e1, List.append_assoc]] at W
    exact W
