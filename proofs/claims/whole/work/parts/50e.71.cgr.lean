/-! the pure part: a group's document is one; the class's $group as a whole -/
theorem q_bsm {u : Bool} : ∀ (l : List q_V) (o : Option q_V) (z : q_V), q_bs u o l = some z → z ∈ l ∨ o = some z := by
  intro l
  induction l with
  | nil => exact fun o z h => Or.inr h
  | cons a l ih =>
    intro o z h
    rw [q_bsc] at h
    rcases ih _ z h with q | q
    · exact Or.inl (List.mem_cons_of_mem _ q)
    · cases o with
      | none =>
        cases q
        exact Or.inl List.mem_cons_self
      | some w =>
        dsimp only at q
        split at q
        · cases q
          exact Or.inl List.mem_cons_self
        · exact Or.inr q
theorem q_uqm {z : q_V} : ∀ (l kp : List q_V), z ∈ q_uq1 kp l → z ∈ l := by
  intro l
  induction l with
  | nil => exact fun _ h => by cases h
  | cons a l ih =>
    intro kp h
    unfold q_uq1 at h
    split at h
    · exact List.mem_cons_of_mem _ (ih _ h)
    · rcases List.mem_cons.1 h with e | e
      · rw [e]
        exact List.mem_cons_self
      · exact List.mem_cons_of_mem _ (ih _ e)
theorem q_uql : ∀ (l kp : List q_V), (q_uq1 kp l).length ≤ l.length := by
  intro l
  induction l with
  | nil => exact fun _ => Nat.le_refl _
  | cons a l ih =>
    intro kp
    unfold q_uq1
    rw [List.length_cons]
    split
    · have := ih kp
      omega
    · rw [List.length_cons]
      have := ih (kp ++ [a])
      omega
theorem q_pvm {vs : List (Option q_V)} {z : q_V} : z ∈ q_pv vs ↔ some z ∈ vs := by
  unfold q_pv
  rw [List.mem_filterMap]
  constructor
  · rintro ⟨a, h1, h2⟩
    have : a = some z := h2
    rwa [this] at h1
  · intro h
    exact ⟨some z, h, rfl⟩
theorem q_pvl (vs : List (Option q_V)) : (q_pv vs).length ≤ vs.length := List.length_filterMap_le _ _
theorem q_ok18 {d : Nat} {v : List UInt8} (h : v.length = 8) : q_ok d 18 v := by
  have l : q_lf 18 v := Or.inr (Or.inl ⟨rfl, h⟩)
  cases d with
  | zero => exact l
  | succ d => exact Or.inl l
theorem q_okrow {D : List q_V} (h : ∀ z ∈ D, q_ok 16 z.1 z.2) (hl : D.length ≤ 900) : q_ok 17 4 (q_bx (q_rn 0 D)) := by
  refine q_okb (Or.inr rfl) ?_ ⟨fun q => absurd q (by decide), fun _ => q_rnr D 0⟩
  intro x hx
  obtain ⟨h1, j, hj, h2⟩ := q_rnm hx
  refine ⟨?_, h _ h1⟩
  rw [h2]
  exact q_dg0 j (by omega)
theorem q_gvok {wk : Nat} {vs : List (Option q_V)} (h : ∀ z, some z ∈ vs → q_ok 16 z.1 z.2) (hl : vs.length ≤ 200) : q_ok 17 (q_gval wk vs).1 (q_gval wk vs).2 := by
  have pl := q_pvl vs
  unfold q_gval
  by_cases c1 : wk = 1
  · rw [if_pos c1]
    exact q_ok18 (q_l8l _)
  rw [if_neg c1]
  by_cases c2 : wk = 2
  · rw [if_pos c2]
    exact q_ok18 (q_l8l _)
  rw [if_neg c2]
  by_cases c7 : wk = 7
  · rw [if_pos c7]
    exact q_okrow (fun z hz => h z (q_pvm.1 hz)) (by omega)
  rw [if_neg c7]
  by_cases c8 : wk = 8
  · rw [if_pos c8]
    have ul := q_uql (q_pv vs) []
    exact q_okrow (fun z hz => h z (q_pvm.1 (q_uqm _ _ hz))) (by omega)
  rw [if_neg c8]
  unfold q_pk
  have key : ∀ o : Option q_V, (∀ z, o = some z → some z ∈ vs) → q_ok 17 (o.getD (10, [])).1 (o.getD (10, [])).2 := by
    intro o ho
    cases o with
    | none => exact q_ok10
    | some z => exact q_okm (h z (ho z rfl)) (by omega)
  apply key
  intro z hz
  have bs : ∀ u, q_bs u none (q_pv vs) = some z → some z ∈ vs := by
    intro u q
    rcases q_bsm _ _ _ q with q | q
    · exact q_pvm.1 q
    · cases q
  by_cases c3 : wk = 3
  · rw [if_pos c3] at hz
    exact bs true hz
  rw [if_neg c3] at hz
  by_cases c4 : wk = 4
  · rw [if_pos c4] at hz
    exact bs false hz
  rw [if_neg c4] at hz
  by_cases c6 : wk = 6
  · rw [if_pos c6] at hz
    cases hv : vs with
    | nil =>
      rw [hv] at hz
      cases hz
    | cons a r =>
      rw [← hv]
      rw [hv] at hz
      have : (a :: r).getLastD none = (a :: r).getLast (by simp) := by
        simp only [List.getLastD]
      rw [this] at hz
      rw [hv, ← hz]
      exact List.getLast_mem _
  rw [if_neg c6] at hz
  cases hv : vs with
  | nil =>
    rw [hv] at hz
    cases hz
  | cons a r =>
    rw [hv] at hz
    have hz : a = some z := hz
    rw [hz]
    exact List.mem_cons_self
theorem q_gvv {F : List (List UInt8)} {w : q_P} {d : Nat} {l : List Nat} {z : q_V} (hF : q_FO F) (hw : q_ok d w.1 w.2.2) (hd : d ≤ 16) (hwl : w.2.2.length ≤ 2000) (hl : ∀ m ∈ l, m < F.length) (h : some z ∈ q_gv w F l) : q_ok 16 z.1 z.2 := by
  obtain ⟨m, hm, he⟩ := List.mem_map.1 h
  have ml := hl m hm
  rw [q_gdd (List.getElem?_eq_getElem ml)] at he
  obtain ⟨d1, d2⟩ := hF.2.2 _ (List.getElem_mem ml)
  exact q_okm (q_xvp hw d1 d2 hwl he).2 (by omega)
theorem q_gkv {F : List (List UInt8)} {x0 : q_P} {d i : Nat} (hF : q_FO F) (hw : q_ok d x0.1 x0.2.2) (hd : d ≤ 16) (hwl : x0.2.2.length ≤ 2000) (hi : i < F.length) : q_ok 16 (q_gk x0 F i).1 (q_gk x0 F i).2 := by
  unfold q_gk
  rw [q_gdd (List.getElem?_eq_getElem hi)]
  cases hz : q_xv x0.1 x0.2.2 F[i] with
  | none => exact q_ok10
  | some z =>
    obtain ⟨d1, d2⟩ := hF.2.2 _ (List.getElem_mem hi)
    exact q_okm (q_xvp hw d1 d2 hwl hz).2 (by omega)
theorem q_tok {y : q_P} {d : Nat} (ho : q_ok d y.1 y.2.2) (hl : y.2.2.length ≤ 2000) (hg : q_gpf y = 0) : ∃ d', d' ≤ d ∧ q_ok d' (q_told y).1 (q_told y).2.2 ∧ (q_told y).2.2.length ≤ 2000 := by
  obtain ⟨_, y3, psy, _, _⟩ := q_gp0 hg
  rw [y3] at ho
  obtain ⟨e', ws, de, ew, o1, o2⟩ := q_okd ho (Or.inl rfl)
  have bl := q_bxl ws
  have yl : y.2.2.length = (q_bx ws).length := by rw [ew]
  have psw : q_ps y.2.2 = ws := q_psb' ew o1 (by omega)
  rw [psy] at psw
  subst psw
  have := q_enm (List.mem_cons_self (a := q_told y) (l := []))
  exact ⟨e', by omega, (o1 _ List.mem_cons_self).2, by omega⟩
theorem q_gDo {F : List (List UInt8)} {x0 : q_P} {ps : List q_P} {d g : Nat} (hF : q_FO F) (ho : q_op d (x0 :: ps)) (hd : d ≤ 16) (hn : q_nk 3 (x0 :: ps)) (hl : (q_bx (x0 :: ps)).length ≤ 2000) (hgf : q_gff ps = 0) (hg : g < (q_gf (q_gk x0 F) F.length).length) : q_ok 18 3 (q_gD x0 ps F (q_gk x0 F) g) := by
  have bl := q_bxl (x0 :: ps)
  have gd : (q_gf (q_gk x0 F) F.length).getD g 0 = (q_gf (q_gk x0 F) F.length)[g] := by
    rw [List.getD_eq_getElem?_getD, List.getElem?_eq_getElem hg]
    rfl
  refine q_okb (Or.inl rfl) ?_ ⟨fun _ => ?_, fun q => absurd q (by decide)⟩
  · intro u hu
    rcases List.mem_cons.1 hu with e | e
    · have := q_enm (List.mem_cons_self (a := x0) (l := ps))
      obtain ⟨a1, a2⟩ := ho x0 List.mem_cons_self
      rw [e, gd]
      refine ⟨a1, q_okm (q_gkv hF a2 hd (by omega) (q_gfm _ _ _ (List.getElem_mem hg))) (by omega)⟩
    · obtain ⟨y, hy, rfl⟩ := List.mem_map.1 e
      have hy' : y ∈ x0 :: ps := List.mem_cons_of_mem _ hy
      have := q_enm hy'
      obtain ⟨a1, a2⟩ := ho y hy'
      have gp := q_gff0 hgf hy
      obtain ⟨d', t1, t2, t3⟩ := q_tok a2 (by omega) gp
      refine ⟨a1, ?_⟩
      refine q_gvok (fun z hz => q_gvv hF t2 (by omega) t3 (fun m hm => (q_gmm hm).1) hz) ?_
      unfold q_gv
      rw [List.length_map]
      have := q_gmlen (q_gk x0 F) F.length g
      have := hF.1
      omega
  · have := hn.1 rfl
    rw [List.map_cons] at this ⊢
    rw [List.map_map]
    exact this
theorem q_tp16 {T1 T2 T3 T4 T5 T6 T7 T8 T9 T10 T11 T12 T13 T14 T15 T16 Z : Type} (x1 : T1) (x2 : T2) (x3 : T3) (x4 : T4) (x5 : T5) (x6 : T6) (x7 : T7) (x8 : T8) (x9 : T9) (x10 : T10) (x11 : T11) (x12 : T12) (x13 : T13) (x14 : T14) (x15 : T15) (x16 : T16) (f : T1 → T2 → T3 → T4 → T5 → T6 → T7 → T8 → T9 → T10 → T11 → T12 → T13 → T14 → T15 → T16 → Z) : tp16 (x1, x2, x3, x4, x5, x6, x7, x8, x9, x10, x11, x12, x13, x14, x15, x16) f = f x1 x2 x3 x4 x5 x6 x7 x8 x9 x10 x11 x12 x13 x14 x15 x16 := rfl
theorem q_tp14 {T1 T2 T3 T4 T5 T6 T7 T8 T9 T10 T11 T12 T13 T14 Z : Type} (x1 : T1) (x2 : T2) (x3 : T3) (x4 : T4) (x5 : T5) (x6 : T6) (x7 : T7) (x8 : T8) (x9 : T9) (x10 : T10) (x11 : T11) (x12 : T12) (x13 : T13) (x14 : T14) (f : T1 → T2 → T3 → T4 → T5 → T6 → T7 → T8 → T9 → T10 → T11 → T12 → T13 → T14 → Z) : tp14 (x1, x2, x3, x4, x5, x6, x7, x8, x9, x10, x11, x12, x13, x14) f = f x1 x2 x3 x4 x5 x6 x7 x8 x9 x10 x11 x12 x13 x14 := rfl
/-- the documents of all groups -/
def q_gds (x0 : q_P) (ps : List q_P) (F : List (List UInt8)) : List (List UInt8) := (List.range (q_gf (q_gk x0 F) F.length).length).map (q_gD x0 ps F (q_gk x0 F))
theorem c_gr_h {fb nb p T d : Nat} {fcnt ngr : Int32} {fsts gky ghs gfi gla gnx : Nat → Int32} {F : List (List UInt8)} {x0 : q_P} {ps : List q_P} (hd : fb + 40000 ≤ nb ∨ nb + 40000 ≤ fb) (hT : T ≤ 162000) (hd16 : d ≤ 16) (hp : p + (q_bx (x0 :: ps)).length ≤ 2000) (ho : q_op d (x0 :: ps)) (hnk : q_nk 3 (x0 :: ps)) (hgf : q_gff ps = 0) (hsm : q_hld (q_gk x0 F) F ps = true) :
    ∀ (m g n : Nat) (held : Int32) (gsum : Int64) (place limit : Int32) (full : Bool) (b : Nat → UInt8) (ncnt : Int32) (nsts : Nat → Int32) (N : List (List UInt8)) (pcnt : Int32) (pfix : Bool) (pown vplace vlimit : Int32) (vfull : Bool) (pst pen pix gvl : Nat → Int32), g + m = (q_gf (q_gk x0 F) F.length).length → m < n → sb b p (q_bx (x0 :: ps)) → q_be b fb fcnt fsts F → q_be b nb ncnt nsts N → q_GI fb T b (q_gk x0 F) F.length ngr gky ghs gfi gla gnx →
    ∃ h' s' pl l f b' c s pc pf po vp vl vf ps' pe px gv M, tw_GR_group_h41 (iN fb) (iN nb) fcnt fsts (iN (32 * p + 3)) n (iN g) ngr held gsum place limit full b ncnt nsts pcnt pfix pown vplace vlimit vfull pst pen pix gky ghs gfi gla gnx gvl = (q_05 (q_run (some N) (((List.range (q_gf (q_gk x0 F) F.length).length).drop g).map (q_gD x0 ps F (q_gk x0 F)))), ngr, h', s', pl, l, f, b', c, s, pc, pf, po, vp, vl, vf, ps', pe, px, gky, ghs, gfi, gla, gnx, gv) ∧ q_be b' nb c s M ∧ (∀ R, q_run (some N) (((List.range (q_gf (q_gk x0 F) F.length).length).drop g).map (q_gD x0 ps F (q_gk x0 F))) = some R → M = R) ∧ (∀ j, j < 162000 → j < nb ∨ nb + 40000 ≤ j → b' j = b j) := by
  intro m
  induction m with
  | zero =>
    intro g n held gsum place limit full b ncnt nsts N pcnt pfix pown vplace vlimit vfull pst pen pix gvl hg hn hs hb h hG
    obtain ⟨n, rfl⟩ : ∃ m, n = m + 1 := ⟨n - 1, by omega⟩
    have : g = (q_gf (q_gk x0 F) F.length).length := by omega
    subst this
    unfold tw_GR_group_h41
    rw [if_pos (by rw [hG.1]; exact Int32.le_refl _), List.drop_eq_nil_of_le (by rw [List.length_range]; exact Nat.le_refl _)]
    exact ⟨_, _, _, _, _, _, _, _, _, _, _, _, _, _, _, _, _, _, N, rfl, h, (fun R q => by cases q; rfl), fun _ _ _ => rfl⟩
  | succ m ih =>
    intro g n held gsum place limit full b ncnt nsts N pcnt pfix pown vplace vlimit vfull pst pen pix gvl hg hn hs hb h hG
    obtain ⟨n, rfl⟩ : ∃ m, n = m + 1 := ⟨n - 1, by omega⟩
    have F1 := hb.2.2.2.1.1
    have F2 := hb.2.2.2.1.2.1
    have F5 := hb.2.2.2.2.1
    have N2 := h.2.2.2.1.2.1
    have N5 := h.2.2.2.2.1
    have N6 := h.2.2.2.2.2
    have fl := q_gfl (q_gk x0 F) F.length
    have gl : g < (q_gf (q_gk x0 F) F.length).length := by omega
    obtain ⟨h', s', r', b1, pc, pf, po, vp, vl, vf, ps', pe, px, gv, k1, k2, k3⟩ := c_wg (place := place) (limit := limit) (full := full) (held := held) (gsum := gsum) (pcnt := pcnt) (pown := pown) (vplace := vplace) (vlimit := vlimit) (pfix := pfix) (vfull := vfull) (pst := pst) (pen := pen) (pix := pix) (gvl := gvl) hd hT gl hd16 hb h hs hp ho (q_okb (Or.inl rfl) ho hnk) hgf (fun y hy q => by
      have := List.all_eq_true.1 hsm y hy
      rw [decide_eq_false (fun z => z q), Bool.false_or] at this
      exact List.all_eq_true.1 this g (List.mem_range.2 gl)) hG
    obtain ⟨n1, n2, n3, n4⟩ := c_next (place := place) (limit := limit) (full := full) h
    have h1 : q_be b1 nb ncnt nsts N := q_bef h (fun j u v => k2 j (by omega))
    have ok := q_gDo (g := g) hb.2.2.2.1 ho hd16 hnk (by omega) hgf gl
    obtain ⟨c', s2, a1, a2⟩ := c_acc (limit := iN (q_nL nb N)) h1 k3 ok (by omega)
    have fr : ∀ j, j < 162000 → j < nb ∨ nb + 40000 ≤ j → r'.2.2 j = b j := fun j hj hj2 => (k3.1 j (by omega)).trans (k2 j hj)
    have dr : (List.range (q_gf (q_gk x0 F) F.length).length).drop g = g :: (List.range (q_gf (q_gk x0 F) F.length).length).drop (g + 1) := by
      rw [List.drop_eq_getElem_cons (by rw [List.length_range]; exact gl), List.getElem_range]
    unfold tw_GR_group_h41
    rw [if_neg (by rw [hG.1]; simp (disch := omega) only [iN_a, iN_c, iN_le, iN_lt, iN_eq, iN_i]; omega), k1, q_tp16, a1, q_tp3, dr, List.map_cons, q_runc]
    try dsimp only
    cases hmr : q_more (some N) (q_gD x0 ps F (q_gk x0 F) g) with
    | none =>
      rw [hmr] at a2
      rw [q_runn, if_pos (show b2i (none : Option (List (List UInt8))).isSome = 0 from rfl)]
      exact ⟨_, _, _, _, _, _, _, _, _, _, _, _, _, _, _, _, _, _, N, rfl, a2, (fun R q => by cases q), fr⟩
    | some N' =>
      rw [hmr] at a2
      rw [if_neg (show ¬ b2i (some N').isSome = 0 from (by decide : ¬ b2i true = 0)), show iN g + 1 = iN (g + 1) from iN_a g 1]
      obtain ⟨b3, b4, b5, b6, b7, b8, b9, b10, b11, b12, b13, b14, b15, b16, b17, b18, b19, b20, M, t1, t2, t3, t4⟩ := ih (g + 1) n h' s' (iN r'.1) (iN (q_nL nb N)) r'.2.1 r'.2.2 c' s2 N' pc pf po vp vl vf ps' pe px gv (by omega) (by omega) (sb_fr hs (fun j u v => fr j (by omega) (by omega))) (q_bef hb (fun j u v => fr j (by omega) (by omega))) a2 (q_GIf hG (Nat.le_refl _) (fun j hj => fr j (by omega) (by omega)))
      exact ⟨b3, b4, b5, b6, b7, b8, b9, b10, b11, b12, b13, b14, b15, b16, b17, b18, b19, b20, M, t1, t2, t3, fun j hj hj2 => (t4 j hj hj2).trans (fr j hj hj2)⟩
