/-! the pure part: a document with another value at a path of documents; the reference's through -/
def q_r1 (x : List UInt8) (z : q_V) (f : Option (List UInt8 → List UInt8)) (y : q_P) : q_P := if y.2.1 = x then (match f with | none => (z.1, y.2.1, z.2) | some f => (3, y.2.1, f y.2.2)) else y
def q_rpl (z : q_V) : List (List UInt8) → List UInt8 → List UInt8
  | [], v => v
  | x :: xs, v => q_bx ((q_ps v).map (q_r1 x z (if xs.isEmpty = true then none else some (q_rpl z xs))))
def q_tc : List (List UInt8) → List q_P → Prop
  | [], _ => True
  | x :: xs, ps => xs ≠ [] → ∀ y ∈ ps, y.2.1 = x → y.1 = 3 ∧ q_tc xs (q_ps y.2.2)
theorem q_rpc (z : q_V) (x : List UInt8) (xs : List (List UInt8)) (v : List UInt8) : q_rpl z (x :: xs) v = q_bx ((q_ps v).map (q_r1 x z (if xs.isEmpty = true then none else some (q_rpl z xs)))) := rfl
theorem q_psb' {d : Nat} {ps : List q_P} {v : List UInt8} (e : v = q_bx ps) (ho : q_op d ps) (h : (q_bx ps).length < 4294967296) : q_ps v = ps := by
  rw [e]
  exact q_psb ho h
theorem r_thr {fu g m Z dz : Nat} {z : q_V} {st0 : Nat → Int32} (hfu : 2500 ≤ fu) (hg : g + m ≤ 124000) (hzo : q_ok dz z.1 z.2) (hz : sm st0 Z z.2) (hZ : Z + z.2.length ≤ g) (hzl : z.2.length ≤ 2000) :
    ∀ (xs : List (List UInt8)), (∀ x ∈ xs, q_gs x) → ∀ (x : List UInt8) (ys : List (List UInt8)), xs = x :: ys → ∀ (n s a d t : Nat) (o : Bool) (st : Nat → Int32) (ps : List q_P), xs.length ≤ n → sm st0 a (q_bx ps) → q_op d ps → a + (q_bx ps).length ≤ g → (q_bx ps).length ≤ 2000 → q_sq st0 s xs → g + m ≤ s → q_tc xs ps → g ≤ t → t ≤ g + m → (∀ j, j < g ∨ g + m ≤ j → st j = st0 j) →
    ∃ r, tw_MO_thr fu (iN g) (iN m) n (iN t) o st (iN a) (iN s) (iN z.1.toNat) (iN Z) = q_e3 r ∧ q_W g m t o st (q_en (ps.map (q_r1 x z (if ys.isEmpty = true then none else some (q_rpl z ys))))) r := by
  intro xs
  induction xs with
  | nil =>
    intro _ x ys e
    cases e
  | cons x0 ys0 ihx =>
    intro hgs x ys exy n s a d t o st ps hn h ho ha hl hsq hs htc ht ht2 hfr
    obtain ⟨rfl, rfl⟩ : x = x0 ∧ ys = ys0 := by
      cases exy
      exact ⟨rfl, rfl⟩
    obtain ⟨n, rfl⟩ : ∃ k, n = k + 1 := ⟨n - 1, by rw [List.length_cons] at hn; omega⟩
    rw [List.length_cons] at hn
    obtain ⟨g1, g2, g3, g4⟩ := hgs x List.mem_cons_self
    obtain ⟨c, c1, c2, c3, c4, c5, c6, c7⟩ := r_pq hsq
    have bl := q_bxl ps
    have pl := q_psl ps
    have loop : ∀ (qs : List q_P) (e k t : Nat) (o : Bool) (st : Nat → Int32), (∀ y ∈ qs, y ∈ ps) → sm st0 e (q_en qs ++ [0]) → 0 < e → e + (q_en qs).length < g → (q_en qs).length ≤ 2000 → qs.length < k → g ≤ t → t ≤ g + m → (∀ j, j < g ∨ g + m ≤ j → st j = st0 j) →
        ∃ r, tw_MO_through_h7 fu (fun top ovr st p0 p1 p2 p3 => tw_MO_thr fu (iN g) (iN m) n top ovr st p0 p1 p2 p3) (iN g) (iN m) (fun (x5_19 : Int32) (top_19 : Int32) (ovr_19 : Bool) (st_19 : Nat → Int32) => some (top_19, ovr_19, st_19)) (iN s) (iN z.1.toNat) (iN Z) k (iN (q_pt e qs)) (iN t) o st = q_e3 r ∧ q_W g m t o st (q_en (qs.map (q_r1 x z (if ys.isEmpty = true then none else some (q_rpl z ys))))) r := by
      intro qs
      induction qs with
      | nil =>
        intro e k t o st _ _ _ _ _ hk ht ht2 _
        obtain ⟨k, rfl⟩ : ∃ i, k = i + 1 := ⟨k - 1, by omega⟩
        exact ⟨(t, o, st), rfl, q_W0 ht ht2⟩
      | cons y qs ih =>
        intro e k t o st hin hq he hp hl2 hk ht ht2 hfr
        obtain ⟨k, rfl⟩ : ∃ i, k = i + 1 := ⟨k - 1, by omega⟩
        rw [List.length_cons] at hk
        obtain ⟨hm, hb⟩ := ho y (hin y List.mem_cons_self)
        have e1 := q_e1l y
        have e2 := q_enl y qs
        have hq1 : sm st e (q_en (y :: qs) ++ [0]) := sm_fr hq (fun j u v => by
          rw [List.length_append] at v
          simp only [List.length_cons, List.length_nil] at v
          exact hfr j (by omega))
        have h1 := (sm_en hq1).1
        have s1 := sm_e1 h1
        have hstep : tw_MO_isStep fu st (iN s) (iN e) = some (decide (y.2.1 = x)) := r_is c1 (sm_ap.2 ⟨s1.2.1, s1.2.2.1, trivial⟩) (sm_fr c2 (fun j u v => hfr j (by omega))) hm g2 g3 (by omega) (by omega) (by omega)
        have one : ∀ (W : q_R), q_W g m t o st (q_e1 (q_r1 x z (if ys.isEmpty = true then none else some (q_rpl z ys)) y)) W → ∃ r, ob1 (tw_MO_nextOf fu W.2.2 (iN e)) (fun r_18 => tw_MO_through_h7 fu (fun top ovr st p0 p1 p2 p3 => tw_MO_thr fu (iN g) (iN m) n top ovr st p0 p1 p2 p3) (iN g) (iN m) (fun (x5_19 : Int32) (top_19 : Int32) (ovr_19 : Bool) (st_19 : Nat → Int32) => some (top_19, ovr_19, st_19)) (iN s) (iN z.1.toNat) (iN Z) k r_18 (iN W.1) W.2.1 W.2.2) = q_e3 r ∧ q_W g m t o st (q_en ((y :: qs).map (q_r1 x z (if ys.isEmpty = true then none else some (q_rpl z ys))))) r := by
          intro W hW
          have fW : ∀ j, j < g ∨ g + m ≤ j → W.2.2 j = st0 j := fun j hj => (hW.1 j (by omega)).trans (hfr j hj)
          have hq2 : sm W.2.2 e (q_en (y :: qs) ++ [0]) := sm_fr hq (fun j u v => by
            rw [List.length_append] at v
            simp only [List.length_cons, List.length_nil] at v
            exact fW j (by omega))
          obtain ⟨r, r1, r2⟩ := ih (e + (q_e1 y).length) k W.1 W.2.1 W.2.2 (fun u hu => hin u (List.mem_cons_of_mem _ hu)) (sm_en hq).2 (by omega) (by omega) (by omega) (by omega) (by have := hW.2.1; omega) hW.2.2.1 fW
          rw [r_no hq2 (fun u hu => ho u (hin u hu)) (by omega) (by omega), obs1]
          exact ⟨r, r1, by rw [List.map_cons, q_enc]; exact q_Wa hW r2⟩
        unfold tw_MO_through_h7
        rw [q_ptc, if_neg (by simp (disch := omega) only [i_0, iN_a, iN_c, iN_le, iN_lt, iN_eq, iN_i]; omega)]
        unfold tw_MO_through_r12
        rw [hstep, obs1]
        by_cases cx : y.2.1 = x
        rotate_left
        · rw [decide_eq_false cx, if_pos (show b2i false = 0 from rfl)]
          obtain ⟨W, w1, w2⟩ := r_ele (fu := fu) (g := g) (m := m) (t := t) (o := o) (by omega) ht ht2 h1 hm hb (by omega) (by omega) (by omega)
          rw [w1, q_o3e]
          refine one W ?_
          unfold q_r1
          rw [if_neg cx]
          exact w2
        rw [decide_eq_true cx, if_neg (show ¬ b2i true = 0 by decide), r_ns c1 (sm_fr c2 (fun j u v => hfr j (by omega))) g2 g3 (by omega) (by omega), obs1, c3]
        have hx2 : y.2.1 = x := cx
        cases ys with
        | nil =>
          rw [show q_st (s + x.length + 1) [] = 0 from rfl, if_pos (show iN 0 = 0 from rfl)]
          obtain ⟨V, v1, v2⟩ := r_hd2 (fu := fu) (g := g) (m := m) (t := t) (e := e) (o := o) (st := st) (k := z.1) (x := y) (by omega) ht ht2 h1 hm (by omega) (by omega) (by omega)
          have hz1 : sm V.2.2 Z z.2 := sm_fr hz (fun j u v => (v2.1 j (by omega)).trans (hfr j (by omega)))
          have v3 := v2.2.1
          obtain ⟨W, w1, w2⟩ := r_cp (fu := fu) (g := g) (m := m) (a := Z) (t := V.1) (o := V.2.1) (st := V.2.2) (l := z.2) (by omega) hz1 (by omega) (by omega) (by omega) v2.2.2.1 (by omega)
          rw [v1, q_o3e, r_lo hzo hz1 (by omega), obs1, w1, q_o3e]
          refine one W ?_
          unfold q_r1
          rw [if_pos cx]
          have A := q_Wa v2 w2
          rw [show (z.1 :: (y.2.1 ++ [0])) ++ z.2 = q_e1 (z.1, y.2.1, z.2) by simp [q_e1, List.append_assoc]] at A
          exact A
        | cons y1 ys1 =>
          obtain ⟨y3, ytc⟩ := htc (by simp) y (hin y List.mem_cons_self) cx
          have hb3 := hb
          rw [y3] at hb3
          obtain ⟨d2, ps2, hd2, ey, o2, _⟩ := q_okd hb3 (Or.inl rfl)
          have ym := q_enm (hin y List.mem_cons_self)
          have bl2 := q_bxl ps2
          have yl : y.2.2.length = (q_bx ps2).length := by rw [ey]
          rw [show q_st (s + x.length + 1) (y1 :: ys1) = s + x.length + 1 from rfl, if_neg (by simp (disch := omega) only [i_0, iN_a, iN_c, iN_le, iN_lt, iN_eq, iN_i]; omega), show (3 : Int32) = iN (3 : UInt8).toNat from rfl]
          obtain ⟨V, v1, v2⟩ := r_hd2 (fu := fu) (g := g) (m := m) (t := t) (e := e) (o := o) (st := st) (k := 3) (x := y) (by omega) ht ht2 h1 hm (by omega) (by omega) (by omega)
          have v3 := v2.2.1
          obtain ⟨O, p1, p2⟩ := r_op (fu := fu) (g := g) (m := m) (t := V.1) (o := V.2.1) (st := V.2.2) (by omega) (by omega) v2.2.2.1 (by omega)
          have p3 := p2.2.1
          have fO : ∀ j, j < g ∨ g + m ≤ j → O.2.2 j = st0 j := fun j hj => (p2.1 j (by omega)).trans ((v2.1 j (by omega)).trans (hfr j hj))
          have hq1' : sm st0 e (q_e1 y) := (sm_en hq).1
          have hD2 : sm st0 (e + y.2.1.length + 2) (q_bx ps2) := by
            rw [← ey]
            exact (sm_e1 hq1').2.2.2
          rw [q_psb' ey o2 (by omega)] at ytc
          obtain ⟨I, i1, i2⟩ := ihx (fun u hu => hgs u (List.mem_cons_of_mem _ hu)) y1 ys1 rfl n (s + x.length + 1) (e + y.2.1.length + 2) d2 O.1 O.2.1 O.2.2 ps2 (by omega) hD2 o2 (by omega) (by omega) c4 (by omega) ytc (by omega) p2.2.2.1 fO
          have X := q_Wa p2 i2
          obtain ⟨C, k1, k2⟩ := r_cls (fu := fu) (a := iN O.1 - 4) (by omega) (by omega) X (by omega) (fun q => by
            have w4 := p2.2.2.2.1
            have w5 := i2.2.2.2.2
            by_cases oo : V.2.1 = false ∧ V.1 + 4 ≤ g + m
            · rw [(w4 oo).1, show (4 : Int32) = iN 4 from rfl, iN_s (by simp)]
              exact congrArg iN (by simp)
            · have o5 := p2.2.2.2.2 oo
              have := w5 (fun zz => by rw [o5] at zz; exact absurd zz.1 (by decide))
              rw [this] at q
              cases q)
          rw [v1, q_o3e, p1, obs4, r_vo (sm_fr hq1' (fun j u v => fO j (by omega))) hm (by omega) (by omega), obs1, r_ns c1 (sm_fr c2 (fun j u v => fO j (by omega))) g2 g3 (by omega) (by omega), obs1, c3, show q_st (s + x.length + 1) (y1 :: ys1) = s + x.length + 1 from rfl]
          dsimp only
          rw [i1, q_o3e, k1, q_o3e]
          refine one C ?_
          unfold q_r1
          rw [if_pos cx]
          have A := q_Wa v2 k2
          rw [show (if (y1 :: ys1).isEmpty = true then none else some (q_rpl z (y1 :: ys1))) = some (q_rpl z (y1 :: ys1)) from rfl]
          show q_W g m t o st (q_e1 (3, y.2.1, q_rpl z (y1 :: ys1) y.2.2)) C
          rw [q_rpc, ey, q_psb o2 (by omega)]
          rw [show ((3 : UInt8) :: (y.2.1 ++ [0])) ++ (q_l4 ((q_en (ps2.map (q_r1 y1 z (if ys1.isEmpty = true then none else some (q_rpl z ys1))))).length + 5) ++ (q_en (ps2.map (q_r1 y1 z (if ys1.isEmpty = true then none else some (q_rpl z ys1)))) ++ [0])) = q_e1 (3, y.2.1, q_bx (ps2.map (q_r1 y1 z (if ys1.isEmpty = true then none else some (q_rpl z ys1))))) by simp [q_e1, q_bx, List.append_assoc]] at A
          exact A
    unfold tw_MO_thr tw_MO_through
    rw [r_fo (sm_fr h (fun j u v => hfr j (by omega))) ho (by omega), obs1]
    exact loop ps (a + 4) fu t o st (fun y hy => hy) (sm_ap.1 h).2 (by omega) (by omega) (by omega) (by omega) ht ht2 hfr
