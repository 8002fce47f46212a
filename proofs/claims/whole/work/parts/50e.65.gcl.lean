/-! the pure part: the class gathers all documents, collects a group's values -/
def q_gk (x0 : q_P) (F : List (List UInt8)) (i : Nat) : q_V := (q_xv x0.1 x0.2.2 (F.getD i [])).getD (10, [])
theorem q_okl0 {v : List UInt8} {d : Nat} {k : UInt8} (h : q_ok d k v) (hk : k = 3 ∨ k = 4) : 0 < v.length := by
  obtain ⟨e, ps, _, rfl, _⟩ := q_okd h hk
  rw [q_bxl]
  omega
theorem q_gdd {F : List (List UInt8)} {i : Nat} {D : List UInt8} (h : F[i]? = some D) : F.getD i [] = D := by
  rw [List.getD_eq_getElem?_getD, h]
  rfl
theorem q_GIf {fb T T' : Nat} {b b' : Nat → UInt8} {K : Nat → q_V} {i : Nat} {ngr : Int32} {gky ghs gfi gla gnx : Nat → Int32} (h : q_GI fb T b K i ngr gky ghs gfi gla gnx) (hT : T ≤ T') (hf : ∀ j, j < 2000 ∨ (fb ≤ j ∧ j < fb + 40000) ∨ (122000 ≤ j ∧ j < T) → b' j = b j) : q_GI fb T' b' K i ngr gky ghs gfi gla gnx := by
  refine ⟨h.1, fun g f hg => ?_⟩
  obtain ⟨k1, k2⟩ := h.2 g f hg
  exact ⟨q_kgf k1 hT hf, k2⟩
theorem q_xrf {b b' : Nat → UInt8} {p : Nat} {k : UInt8} {v : List UInt8} {pcnt pown : Int32} {pfix : Bool} {pst pen pix : Nat → Int32} (h : q_xr b p k v pcnt pfix pown pst pen pix) (hf : ∀ j, j < 2000 → b' j = b j) : q_xr b' p k v pcnt pfix pown pst pen pix := by
  unfold q_xr at h ⊢
  split
  · next c =>
    rw [if_pos c] at h
    obtain ⟨h1, xs, h2, h3, h4⟩ := h
    exact ⟨h1, xs, h2, h3, q_paf h4 hf⟩
  · next c =>
    rw [if_neg c] at h
    exact h
theorem c_ga_h {fb p d : Nat} {fcnt : Int32} {fsts : Nat → Int32} {F : List (List UInt8)} {x0 : q_P} {pcnt pown : Int32} {pfix : Bool} {pst pen pix : Nat → Int32} (ho : q_ok d x0.1 x0.2.2) (hd16 : d ≤ 16) (hp : p + x0.2.2.length ≤ 2000) :
    ∀ (m i n t : Nat) (b : Nat → UInt8) (ngr : Int32) (gky ghs gfi gla gnx : Nat → Int32), i + m = F.length → m < n → 122000 ≤ t → t ≤ 122000 + q_pf F i → sb b p x0.2.2 → q_xr b p x0.1 x0.2.2 pcnt pfix pown pst pen pix → q_be b fb fcnt fsts F → q_GI fb t b (q_gk x0 F) i ngr gky ghs gfi gla gnx →
    ∃ ngr' b' t' gky' ghs' gfi' gla' gnx', tw_GR_gather_h28 (iN fb) fcnt fsts n (iN i) ngr b pcnt pfix pown (iN t) (iN 162000) false pst pen pix gky ghs gfi gla gnx = (ngr', b', pcnt, pfix, pown, iN t', iN 162000, false, pst, pen, pix, gky', ghs', gfi', gla', gnx') ∧ t' ≤ 162000 ∧ q_GI fb t' b' (q_gk x0 F) F.length ngr' gky' ghs' gfi' gla' gnx' ∧ (∀ j, j < 122000 ∨ 162000 ≤ j → b' j = b j) := by
  intro m
  induction m with
  | zero =>
    intro i n t b ngr gky ghs gfi gla gnx hi hn ht1 ht2 hs hr hb hG
    obtain ⟨n, rfl⟩ : ∃ m, n = m + 1 := ⟨n - 1, by omega⟩
    have F2 := hb.2.2.2.1.2.1
    have := q_pfl F i
    have : i = F.length := by omega
    subst this
    unfold tw_GR_gather_h28
    rw [hb.1, if_pos (Int32.le_refl _)]
    exact ⟨_, _, t, _, _, _, _, _, rfl, by omega, hG, fun _ _ => rfl⟩
  | succ m ih =>
    intro i n t b ngr gky ghs gfi gla gnx hi hn ht1 ht2 hs hr hb hG
    obtain ⟨n, rfl⟩ : ∃ m, n = m + 1 := ⟨n - 1, by omega⟩
    have il : i < F.length := by omega
    have F1 := hb.2.2.2.1.1
    have F2 := hb.2.2.2.1.2.1
    have F5 := hb.2.2.2.2.1
    have F6 := hb.2.2.2.2.2
    have hk : F[i]? = some F[i] := List.getElem?_eq_getElem il
    obtain ⟨d1, d2, d3, d4⟩ := q_bed hb hk
    have pfs := q_pfs hk
    have pfl := q_pfl F (i + 1)
    have bsd := q_bsd hb (show i ≤ F.length by omega)
    have gd := q_gdd hk
    obtain ⟨ref, t', b', e1, e2, e3, e4, e5⟩ := c_ev1 (t := t) (A := 122000) (L := 162000) (fb := fb) ho hd16 hs hp hr d2 d1 (by omega) ⟨by omega, by omega⟩ (by omega) (by omega) (by omega) (by omega) d3 (q_okl0 d2 (Or.inl rfl))
    have fr : ∀ j, j < 122000 ∨ 162000 ≤ j → b' j = b j := fun j hj => e4 j (by omega)
    have hG' : q_GI fb t' b' (q_gk x0 F) i ngr gky ghs gfi gla gnx := q_GIf hG e2 (fun j hj => e4 j (by omega))
    have go : ∀ p1, q_kg fb 122000 t' b' p1 (q_gk x0 F i) → ∃ ngr' b2 t2 gky' ghs' gfi' gla' gnx', tp6 (tw_GR_gatherOne b' ngr gky ghs gfi gla (upd gnx (iN i).toNatClampNeg (-1)) (iN i) p1) (fun ngr_9 gky_9 ghs_9 gfi_9 gla_9 gnx_9 => tw_GR_gather_h28 (iN fb) fcnt fsts n (iN i + 1) ngr_9 b' pcnt pfix pown (iN t') (iN 162000) false pst pen pix gky_9 ghs_9 gfi_9 gla_9 gnx_9) = (ngr', b2, pcnt, pfix, pown, iN t2, iN 162000, false, pst, pen, pix, gky', ghs', gfi', gla', gnx') ∧ t2 ≤ 162000 ∧ q_GI fb t2 b2 (q_gk x0 F) F.length ngr' gky' ghs' gfi' gla' gnx' ∧ (∀ j, j < 122000 ∨ 162000 ≤ j → b2 j = b j) := by
      intro p1 hp1
      obtain ⟨ngr1, gky1, ghs1, gfi1, gla1, gnx1, g1, g2⟩ := c_g1 (show i < 200 by omega) hG' hp1
      rw [iN_c (by omega), g1, q_tp6]
      try dsimp only
      obtain ⟨a1, a2, a3, a4, a5, a6, a7, a8, u1, u2, u3, u4⟩ := ih (i + 1) n t' b' ngr1 gky1 ghs1 gfi1 gla1 gnx1 (by omega) (by omega) (by omega) (by omega) (sb_fr hs (fun j u v => fr j (by omega))) (q_xrf hr (fun j hj => fr j (by omega))) (q_bef hb (fun j u v => fr j (by omega))) g2
      rw [show iN i + 1 = iN (i + 1) from iN_a i 1]
      exact ⟨a1, a2, a3, a4, a5, a6, a7, a8, u1, u2, u3, fun j hj => (u4 j hj).trans (fr j hj)⟩
    unfold tw_GR_gather_h28
    rw [if_neg (by rw [hb.1]; simp (disch := omega) only [iN_a, iN_c, iN_le, iN_lt, iN_eq, iN_i]; omega), if_neg (by simp (disch := omega) only [i_200, iN_a, iN_c, iN_le, iN_lt, iN_eq, iN_i]; omega), bsd, e1, q_tp5]
    try dsimp only
    cases hz : q_xv x0.1 x0.2.2 F[i] with
    | none =>
      rw [hz] at e5
      have e5 : ref = 0 := e5
      rw [if_pos e5]
      refine go 10 ?_
      unfold q_gk
      rw [gd, hz]
      exact q_kg0
    | some z =>
      rw [hz] at e5
      have e5 : q_kg fb 122000 t' b' ref z := e5
      have nz : ¬ ref = 0 := by
        obtain ⟨Q, q1, q2, _, _, q5, _⟩ := e5
        have kn := q_okn q2
        rw [q1]
        simp (disch := omega) only [i_0, iN_a, iN_c, iN_le, iN_lt, iN_eq, iN_i]
        omega
      rw [if_neg nz]
      refine go ref ?_
      unfold q_gk
      rw [gd, hz]
      exact e5
theorem q_GI0 {fb T : Nat} {b : Nat → UInt8} {K : Nat → q_V} {gky ghs gfi gla gnx : Nat → Int32} : q_GI fb T b K 0 0 gky ghs gfi gla gnx := ⟨rfl, fun g f h => by cases h⟩
theorem c_mra {vplace vlimit : Int32} {vfull : Bool} {a : Nat} (h : a + 40000 ≤ 202000) : tw_PA_makeRowsAt vplace vlimit vfull (iN a) = (iN a, iN (a + 40000), false) := by
  unfold tw_PA_makeRowsAt
  rw [show (40000 : Int32) = iN 40000 from rfl, c_aim (by omega), q_tp3]
theorem c_ga {b : Nat → UInt8} {fb p d : Nat} {fcnt ngr vplace vlimit : Int32} {vfull : Bool} {fsts : Nat → Int32} {F : List (List UInt8)} {x0 : q_P} {pcnt pown : Int32} {pfix : Bool} {pst pen pix gky ghs gfi gla gnx : Nat → Int32} (ho : q_ok d x0.1 x0.2.2) (hd16 : d ≤ 16) (hp : p + x0.2.2.length ≤ 2000) (hx : q_xf x0.1 x0.2.2 = 0) (hs : sb b p x0.2.2) (hb : q_be b fb fcnt fsts F) :
    ∃ ngr' b' pc pf po t' ps pe px gky' ghs' gfi' gla' gnx', tw_GR_gather (iN fb) fcnt fsts ngr b pcnt pfix pown vplace vlimit vfull pst pen pix gky ghs gfi gla gnx (iN (32 * p + x0.1.toNat)) = (ngr', b', pc, pf, po, iN t', iN 162000, false, ps, pe, px, gky', ghs', gfi', gla', gnx') ∧ t' ≤ 162000 ∧ q_GI fb t' b' (q_gk x0 F) F.length ngr' gky' ghs' gfi' gla' gnx' ∧ (∀ j, j < 122000 ∨ 162000 ≤ j → b' j = b j) := by
  have F1 := hb.2.2.2.1.1
  obtain ⟨pc, pf, po, ps, pe, px, r1, r2⟩ := (c_re (pcnt := pcnt) (pown := pown) (pfix := pfix) (pst := pst) (pen := pen) (pix := pix) ho hs hp).1 hx
  unfold tw_GR_gather
  rw [show (122000 : Int32) = iN 122000 from rfl, c_mra (by omega), q_tp3]
  try dsimp only
  rw [r1, q_tp7]
  try dsimp only
  rw [if_neg (show ¬ b2i true = 0 by decide)]
  obtain ⟨a1, a2, a3, a4, a5, a6, a7, a8, u1, u2, u3, u4⟩ := c_ga_h (F := F) ho hd16 hp F.length 0 (((200 : Int32).toInt - (0 : Int32).toInt).toNat + 1) 122000 b 0 gky ghs gfi gla gnx (by omega) (by rw [show ((200 : Int32).toInt - (0 : Int32).toInt).toNat + 1 = 201 from rfl]; omega) (by omega) (by omega) hs r2 hb q_GI0
  exact ⟨a1, a2, pc, pf, po, a3, ps, pe, px, a4, a5, a6, a7, a8, u1, u2, u3, u4⟩
/-- the values of an expression over a group's documents -/
def q_gv (w : q_P) (F : List (List UInt8)) (l : List Nat) : List (Option q_V) := l.map (fun m => q_xv w.1 w.2.2 (F.getD m []))
/-- an array holds values, or nothing, from o on -/
def q_vr (fb T : Nat) (b : Nat → UInt8) (f : Nat → Int32) (vs : List (Option q_V)) : Prop := ∀ j z, vs[j]? = some z → (match z with | none => f j = 0 | some z => q_kg fb 162000 T b (f j) z)
theorem q_vrf {fb T T' : Nat} {b b' : Nat → UInt8} {f : Nat → Int32} {vs : List (Option q_V)} (h : q_vr fb T b f vs) (hT : T ≤ T') (hf : ∀ j, j < 2000 ∨ (fb ≤ j ∧ j < fb + 40000) ∨ (162000 ≤ j ∧ j < T) → b' j = b j) : q_vr fb T' b' f vs := by
  intro j z hj
  have := h j z hj
  cases z with
  | none => exact this
  | some z => exact q_kgf this hT hf
theorem q_vra {fb T : Nat} {b : Nat → UInt8} {f : Nat → Int32} {vs : List (Option q_V)} {ref : Int32} {z : Option q_V} (h : q_vr fb T b f vs) (hz : match z with | none => ref = 0 | some z => q_kg fb 162000 T b ref z) : q_vr fb T b (upd f vs.length ref) (vs ++ [z]) := by
  intro j u hj
  have jl := (List.getElem?_eq_some_iff.1 hj).1
  rw [List.length_append, List.length_singleton] at jl
  by_cases c : j = vs.length
  · subst c
    rw [List.getElem?_append_right (Nat.le_refl _), Nat.sub_self] at hj
    cases hj
    rw [q_upe]
    exact hz
  · rw [List.getElem?_append_left (by omega)] at hj
    rw [q_upn c]
    exact h j u hj
/-- the lengths of documents that follow each other in a belt -/
def q_ln (F : List (List UInt8)) (l : List Nat) : Nat := (l.map (fun m => (F.getD m []).length)).sum
theorem c_cl_h {fb p d : Nat} {fcnt : Int32} {fsts gfi gnx : Nat → Int32} {F : List (List UInt8)} {w : q_P} {pcnt pown : Int32} {pfix : Bool} {pst pen pix : Nat → Int32} (ho : q_ok d w.1 w.2.2) (hd16 : d ≤ 16) (hp : p + w.2.2.length ≤ 2000) :
    ∀ (l : List Nat) (dn : List (Option q_V)) (x3 : Int32) (n t : Nat) (b : Nat → UInt8) (gvl : Nat → Int32), (∀ m ∈ l, m < F.length) → x3 = (match l with | [] => -1 | m :: _ => iN m) → q_chn gnx l → l.length < n → dn.length + l.length ≤ 200 → 162000 ≤ t → t + q_ln F l ≤ 202000 → sb b p w.2.2 → q_xr b p w.1 w.2.2 pcnt pfix pown pst pen pix → q_be b fb fcnt fsts F → q_vr fb t b gvl dn →
    ∃ b' t' gvl', tw_GR_collect_h40 (iN fb) fcnt fsts gfi gnx n x3 (iN dn.length) (iN dn.length) b pcnt pfix pown (iN t) (iN 202000) false pst pen pix gvl = (iN (dn.length + l.length), b', pcnt, pfix, pown, iN t', iN 202000, false, pst, pen, pix, gvl') ∧ t' ≤ 202000 ∧ q_vr fb t' b' gvl' (dn ++ q_gv w F l) ∧ (∀ j, j < 162000 → b' j = b j) := by
  intro l
  induction l with
  | nil =>
    intro dn x3 n t b gvl hm hx hc hn hl ht1 ht2 hs hr hb hv
    obtain ⟨n, rfl⟩ : ∃ m, n = m + 1 := ⟨n - 1, by omega⟩
    have hx : x3 = -1 := hx
    subst hx
    unfold tw_GR_collect_h40
    rw [if_pos (show (-1 : Int32) < 0 by decide), ite_self]
    refine ⟨b, t, gvl, rfl, by omega, ?_, fun _ _ => rfl⟩
    show q_vr fb t b gvl (dn ++ [])
    rw [List.append_nil]
    exact hv
  | cons m l ih =>
    intro dn x3 n t b gvl hm hx hc hn hl ht1 ht2 hs hr hb hv
    rw [List.length_cons] at hn hl
    obtain ⟨n, rfl⟩ : ∃ m, n = m + 1 := ⟨n - 1, by omega⟩
    have hx : x3 = iN m := hx
    subst hx
    have ml := hm m List.mem_cons_self
    have F1 := hb.2.2.2.1.1
    have F2 := hb.2.2.2.1.2.1
    have F5 := hb.2.2.2.2.1
    have F6 := hb.2.2.2.2.2
    have hk : F[m]? = some F[m] := List.getElem?_eq_getElem ml
    obtain ⟨d1, d2, d3, d4⟩ := q_bed hb hk
    have bsd := q_bsd hb (show m ≤ F.length by omega)
    have gd := q_gdd hk
    have ln : q_ln F (m :: l) = F[m].length + q_ln F l := by
      unfold q_ln
      rw [List.map_cons, List.sum_cons, gd]
    obtain ⟨ref, t', b', e1, e2, e3, e4, e5⟩ := c_ev1 (t := t) (A := 162000) (L := 202000) (fb := fb) ho hd16 hs hp hr d2 d1 (by omega) ⟨by omega, by omega⟩ (by omega) (by omega) (by omega) (by omega) d3 (q_okl0 d2 (Or.inl rfl))
    have fr : ∀ j, j < 162000 → b' j = b j := fun j hj => e4 j (by omega)
    have hv' := q_vra (q_vrf hv e2 (fun j hj => e4 j (by omega))) e5
    obtain ⟨b2, t2, gvl2, u1, u2, u3, u4⟩ := ih (dn ++ [q_xv w.1 w.2.2 F[m]]) (gnx m) n t' b' (upd gvl dn.length ref) (fun u hu => hm u (List.mem_cons_of_mem _ hu)) hc.1 hc.2 (by omega) (by rw [List.length_append, List.length_singleton]; omega) (by omega) (by omega) (sb_fr hs (fun j u v => fr j (by omega))) (q_xrf hr (fun j hj => fr j (by omega))) (q_bef hb (fun j u v => fr j (by omega))) hv'
    unfold tw_GR_collect_h40
    rw [if_neg (by simp (disch := omega) only [i_200, iN_a, iN_c, iN_le, iN_lt, iN_eq, iN_i]; omega), if_neg (by simp (disch := omega) only [i_0, iN_a, iN_c, iN_le, iN_lt, iN_eq, iN_i]; omega), if_neg (by simp (disch := omega) only [i_200, iN_a, iN_c, iN_le, iN_lt, iN_eq, iN_i]; omega), bsd, e1, q_tp5]
    try dsimp only
    rw [List.length_append, List.length_singleton, show dn.length + 1 + l.length = dn.length + (l.length + 1) by omega] at u1
    rw [List.append_assoc] at u3
    rw [iN_c (by omega), iN_c (by omega), show iN dn.length + 1 = iN (dn.length + 1) from iN_a _ 1]
    refine ⟨b2, t2, gvl2, u1, u2, ?_, fun j hj => (u4 j hj).trans (fr j hj)⟩
    show q_vr fb t2 b2 gvl2 (dn ++ (q_xv w.1 w.2.2 (F.getD m []) :: q_gv w F l))
    rw [gd]
    exact u3
