/-! the pure part: the reference's row of a group's values -/
abbrev q_O9 : Type := Option (Int32 × Int32 × Int32 × Bool × Int32 × Bool × (Nat → Int32) × (Nat → Int32) × (Nat → Int32))
abbrev q_C9 : Type := Int32 → Int32 → Int32 → Bool → Int32 → Bool → (Nat → Int32) → (Nat → Int32) → (Nat → Int32) → q_O9
/-- items that were put down -/
def q_its (st ikd iat : Nat → Int32) (G T : Nat) (D : List q_V) : Prop := ∀ j z, D[j]? = some z → ikd j = iN z.1.toNat ∧ ∃ P, iat j = iN P ∧ sm st P z.2 ∧ G ≤ P ∧ P + z.2.length ≤ T ∧ q_ok 16 z.1 z.2 ∧ z.2.length ≤ 2000
theorem q_itf {st st' ikd iat : Nat → Int32} {G T T' : Nat} {D : List q_V} (h : q_its st ikd iat G T D) (hT : T ≤ T') (hf : ∀ j, G ≤ j → j < T → st' j = st j) : q_its st' ikd iat G T' D := by
  intro j z hj
  obtain ⟨h1, P, h2, h3, h4, h5, h6, h7⟩ := h j z hj
  exact ⟨h1, P, h2, sm_fr h3 (fun i u v => hf i (by omega) (by omega)), h4, by omega, h6, h7⟩
theorem r_109 {fu G T : Nat} {u : Bool} {dcs frm grp st ikd iat : Nat → Int32} {x2 x3 x5 x6 x7 x10 top bgn mst : Int32} {ovr dfl : Bool} {C : Bool → Int32 → q_C9} {D : List q_V} {z : q_V} (hf : 2500 ≤ fu) (hT : T ≤ 124000) (hD : D.length ≤ 300) (hit : q_its st ikd iat G T D) (hz1 : sm st 124000 z.2) (hz2 : q_ok 16 z.1 z.2) (hz3 : z.2.length ≤ 2000) :
    ∀ (m j n : Nat), j + m = D.length → m < n → ∃ x12', tw_MO_rowOf_h109 fu dcs frm grp C x2 x3 (b2i u) x5 x6 x7 (iN z.1.toNat) x10 n true (iN j) top bgn mst ovr (iN D.length) dfl st ikd iat = C (if u = true then !((D.drop j).any (fun w => decide (q_ov2 20 w z = 0))) else true) x12' top bgn mst ovr (iN D.length) dfl st ikd iat := by
  intro m
  induction m with
  | zero =>
    intro j n hj hn
    obtain ⟨n, rfl⟩ : ∃ m, n = m + 1 := ⟨n - 1, by omega⟩
    have : j = D.length := by omega
    subst this
    unfold tw_MO_rowOf_h109
    rw [if_pos (Int32.le_refl _), List.drop_length]
    exact ⟨_, by cases u <;> rfl⟩
  | succ m ih =>
    intro j n hj hn
    obtain ⟨n, rfl⟩ : ∃ m, n = m + 1 := ⟨n - 1, by omega⟩
    have jl : j < D.length := by omega
    obtain ⟨i1, P, i2, i3, i4, i5, i6, i7⟩ := hit j _ (List.getElem?_eq_getElem jl)
    have od := r_ord0 (fu := fu) (p := 124000) (q := P) hf (Or.inl hz2) (Or.inl i6) hz1 i3 (by omega) (by omega) (by omega) (by omega) (by omega)
    change tw_MO_ord0 fu st (iN z.1.toNat) 124000 (iN D[j].1.toNat) (iN P) = some (q_ov2 20 z D[j]) at od
    unfold tw_MO_rowOf_h109 tw_MO_rowOf_r128
    rw [if_neg (by simp (disch := omega) only [iN_a, iN_c, iN_le, iN_lt, iN_eq, iN_i]; omega)]
    cases u with
    | false =>
      rw [if_pos (show b2i false = 0 from rfl)]
      exact ⟨_, rfl⟩
    | true =>
      rw [if_neg (show ¬ b2i true = 0 by decide), if_neg (show ¬ b2i true = 0 by decide), if_pos (by simp (disch := omega) only [i_0, i_2000, iN_a, iN_c, iN_le, iN_lt, iN_eq, iN_i]; omega), iN_c (by omega), i1, i2, od, obs1, List.drop_eq_getElem_cons jl, List.any_cons, if_pos (show true = true from rfl)]
      have ng := (q_ovp 20).2.1 D[j] z
      by_cases c : q_ov2 20 D[j] z = 0
      · rw [if_pos (by rw [ng, c]; exact q_n0), decide_eq_true c, Bool.true_or]
        try dsimp only
        obtain ⟨n, rfl⟩ : ∃ m, n = m + 1 := ⟨n - 1, by omega⟩
        unfold tw_MO_rowOf_h109
        rw [if_neg (show ¬ b2i true = 0 by decide), if_pos (show b2i false = 0 from rfl), ite_self]
        exact ⟨_, rfl⟩
      · rw [if_neg (fun q => c (by rw [ng] at q; have t := congrArg Neg.neg q; rwa [Int32.neg_neg, q_n0] at t)), decide_eq_false c, Bool.false_or, show iN j + 1 = iN (j + 1) from iN_a j 1]
        obtain ⟨x12', h⟩ := ih (j + 1) n (by omega) (by omega)
        rw [if_pos (show true = true from rfl)] at h
        exact ⟨x12', h⟩
def q_kpt (u : Bool) (A l : List q_V) : List q_V := if u = true then q_uq1 A l else l
def q_nA (u : Bool) (A : List q_V) (z : q_V) : List q_V := if (u && A.any (fun w => decide (q_ov2 20 w z = 0))) = true then A else A ++ [z]
theorem q_kps (u : Bool) (A l : List q_V) (z : q_V) : A ++ q_kpt u A (z :: l) = q_nA u A z ++ q_kpt u (q_nA u A z) l := by
  unfold q_kpt q_nA
  cases u with
  | false =>
    rw [Bool.false_and, if_neg (show ¬ false = true by decide), if_neg (show ¬ false = true by decide)]
    simp
  | true =>
    rw [Bool.true_and, if_pos (show true = true from rfl)]
    conv => lhs; arg 2; unfold q_uq1
    by_cases c : A.any (fun w => decide (q_ov2 20 w z = 0)) = true
    · rw [if_pos c, if_pos c]
      rfl
    · rw [if_neg c, if_neg c]
      show A ++ z :: q_uq1 (A ++ [z]) l = (A ++ [z]) ++ q_uq1 (A ++ [z]) l
      simp
theorem q_Wov {g m t : Nat} {o : Bool} {st0 : Nat → Int32} {w w' : List UInt8} {r r' : q_R} (h : q_W g m t o st0 w r) (hr : r.2.1 = true) (hl : w.length ≤ w'.length) (h1 : ∀ j, j < r.1 ∨ g + m ≤ j → r'.2.2 j = r.2.2 j) (h2 : r.1 ≤ r'.1) (h3 : r'.1 ≤ g + m) (h4 : r'.2.1 = true) : q_W g m t o st0 w' r' := by
  obtain ⟨a1, a2, a3, a4, a5⟩ := h
  refine ⟨fun j hj => (h1 j (by omega)).trans (a1 j hj), by omega, h3, fun q => ?_, fun _ => h4⟩
  obtain ⟨_, b2, _⟩ := a4 ⟨q.1, by omega⟩
  rw [hr] at b2
  cases b2
theorem r_109n {fu n : Nat} {dcs frm grp st ikd iat : Nat → Int32} {x2 x3 x4 x5 x6 x7 x9 x10 x12 top bgn mst its : Int32} {ovr dfl : Bool} {C : Bool → Int32 → q_C9} (hn : 0 < n) : tw_MO_rowOf_h109 fu dcs frm grp C x2 x3 x4 x5 x6 x7 x9 x10 n false x12 top bgn mst ovr its dfl st ikd iat = C false x12 top bgn mst ovr its dfl st ikd iat := by
  obtain ⟨n, rfl⟩ : ∃ m, n = m + 1 := ⟨n - 1, by omega⟩
  unfold tw_MO_rowOf_h109
  rw [if_pos (show b2i false = 0 from rfl), ite_self, ite_self]
theorem q_enA (A : List q_V) (z : q_V) : ([0, 0, 0, 0] : List UInt8) ++ q_en (q_rn 0 A) ++ [z.1] ++ (q_dg A.length ++ [0]) ++ z.2 = [0, 0, 0, 0] ++ q_en (q_rn 0 (A ++ [z])) := by
  rw [q_rna, q_ena, Nat.zero_add]
  show _ = [0, 0, 0, 0] ++ (q_en (q_rn 0 A) ++ (q_e1 (z.1, q_dg A.length, z.2) ++ []))
  unfold q_e1
  simp [List.append_assoc]
theorem q_nAl (u : Bool) (A : List q_V) (z : q_V) : A.length ≤ (q_nA u A z).length ∧ (q_nA u A z).length ≤ A.length + 1 ∧ (q_en (q_rn 0 A)).length ≤ (q_en (q_rn 0 (q_nA u A z))).length := by
  unfold q_nA
  split
  · exact ⟨Nat.le_refl _, by omega, Nat.le_refl _⟩
  · refine ⟨?_, ?_, ?_⟩
    · rw [List.length_append]
      omega
    · rw [List.length_append, List.length_singleton]
      omega
    · rw [q_rna, q_ena, List.length_append]
      omega
theorem r_20 {fu e d g G t : Nat} {o u : Bool} {dcs tot frm siz grp : Nat → Int32} {x6 : Int32} {C : Int32 → q_C9} {F : List (List UInt8)} {K : Nat → q_V} {w : q_P} (hf : 5000 ≤ fu) (hm : (0 : UInt8) ∉ w.2.1) (ho : q_ok d w.1 w.2.2) (hd16 : d ≤ 16) (he : e + (q_e1 w).length ≤ 136400) (hl : (q_e1 w).length ≤ 2000) (hge : 134400 ≤ e) (hx : q_xf w.1 w.2.2 = 0) (hg : g < 1000) (hgn : ∀ j, j < F.length → q_gn K j < 1000) (hgrp : ∀ j, j < F.length → grp j = iN (q_gn K j)) (hG : 80000 ≤ G) (hG2 : G ≤ 120000) (ht : G ≤ t) :
    ∀ (m i n : Nat) (dfl : Bool) (ikd iat : Nat → Int32) (A D : List q_V) (r : q_R) (st0 : Nat → Int32), i + m = F.length → m < n → A.length ≤ i → D.length ≤ i → sm st0 e (q_e1 w) → q_rb st0 0 dcs tot frm siz F → q_W G 2001 t o st0 ([0, 0, 0, 0] ++ q_en (q_rn 0 A)) r → q_its r.2.2 ikd iat G r.1 D → (r.2.1 = false → D = A) →
    ∃ its' dfl' ikd' iat' r' st1, tw_MO_rowOf_h20 fu dcs frm grp C (iN e) (iN g) (b2i u) (iN G) x6 n (iN i) (iN r.1) (iN G) (iN 2001) r.2.1 (iN D.length) dfl r.2.2 ikd iat = C (iN F.length) (iN r'.1) (iN G) (iN 2001) r'.2.1 its' dfl' r'.2.2 ikd' iat' ∧ (∀ j, j < 124000 ∨ 132300 ≤ j → st1 j = st0 j) ∧ q_W G 2001 t o st1 ([0, 0, 0, 0] ++ q_en (q_rn 0 (A ++ q_kpt u A (q_pv (q_gv w F (q_gr K F.length g i)))))) r' := by
  intro m
  induction m with
  | zero =>
    intro i n dfl ikd iat A D r st0 hi hn hA hD hs hb hr hit hDA
    obtain ⟨n, rfl⟩ : ∃ m, n = m + 1 := ⟨n - 1, by omega⟩
    have : i = F.length := by omega
    subst this
    unfold tw_MO_rowOf_h20
    rw [show dcs (0 : Int32).toNatClampNeg = iN F.length from hb.1, if_pos (Int32.le_refl _), q_gre]
    refine ⟨_, _, _, _, r, st0, rfl, fun _ _ => rfl, ?_⟩
    have e : A ++ q_kpt u A (q_pv (q_gv w F [])) = A := by
      have : q_kpt u A (q_pv (q_gv w F [])) = [] := by
        cases u <;> rfl
      rw [this, List.append_nil]
    rw [e]
    exact hr
  | succ m ih =>
    intro i n dfl ikd iat A D r st0 hi hn hA hD hs hb hr hit hDA
    obtain ⟨n, rfl⟩ : ∃ m, n = m + 1 := ⟨n - 1, by omega⟩
    have il : i < F.length := by omega
    have F1 := hb.2.2.2.2.1
    have F2 := hb.2.2.2.2.2.1
    have e1 := q_e1l w
    have r2 := hr.2.1
    have r3 := hr.2.2.1
    have fr : ∀ j, j < t ∨ G + 2001 ≤ j → r.2.2 j = st0 j := hr.1
    have hb' : q_rb r.2.2 0 dcs tot frm siz F := q_rbf hb (fun j u v => fr j (by omega))
    have hs' : sm r.2.2 e (q_e1 w) := sm_fr hs (fun j u v => fr j (by omega))
    have hki : F[i]? = some F[i] := List.getElem?_eq_getElem il
    obtain ⟨d1, d2, d3, d4⟩ := q_rbd hb' hki
    obtain ⟨f1, f2⟩ := hb.2.2.1 i _ hki
    simp only [Nat.mul_zero, Nat.zero_add] at f1 f2 d1 d4
    have gd := q_gdd hki
    have gi := hgn i il
    unfold tw_MO_rowOf_h20 tw_MO_rowOf_r31
    rw [show dcs (0 : Int32).toNatClampNeg = iN F.length from hb.1, if_neg (by simp (disch := omega) only [iN_a, iN_c, iN_le, iN_lt, iN_eq, iN_i]; omega), if_pos (show 0 ≤ iN i ∧ iN i < 200 by simp (disch := omega) only [i_0, i_200, iN_a, iN_c, iN_le, iN_lt, iN_eq, iN_i]; omega), iN_c (show i < 2147483648 by omega), hgrp i il, show iN i + 1 = iN (i + 1) from iN_a i 1, q_grs K il]
    by_cases c : q_gn K i = g
    rotate_left
    · rw [if_neg (by simp (disch := omega) only [iN_a, iN_c, iN_le, iN_lt, iN_eq, iN_i]; omega), if_neg c]
      exact ih (i + 1) n dfl ikd iat A D r st0 (by omega) (by omega) (by omega) (by omega) hs hb hr hit hDA
    have X := r_ev (fu := fu) (g := 124000) (top := iN r.1) (bgn := iN G) (mst := iN 2001) (ovr := r.2.1) (by omega) hs' hm ho he hl (by omega) hx d2 (by omega) d1 (by omega) d3
    rw [if_pos (by rw [c]), if_pos c, if_pos (show 0 ≤ iN i ∧ iN i < 400 by simp (disch := omega) only [i_0, i_400, iN_a, iN_c, iN_le, iN_lt, iN_eq, iN_i]; omega), f1, show tw_MO_evaluate fu (iN r.1) (iN G) (iN 2001) r.2.1 r.2.2 (iN e) (iN (q_pf F i)) 124000 = tw_MO_evaluate fu (iN r.1) (iN G) (iN 2001) r.2.1 r.2.2 (iN e) (iN (q_pf F i)) (iN 124000) from rfl]
    generalize tw_MO_evaluate fu (iN r.1) (iN G) (iN 2001) r.2.1 r.2.2 (iN e) (iN (q_pf F i)) (iN 124000) = R at X ⊢
    have gvc : q_gv w F (i :: q_gr K F.length g (i + 1)) = q_xv w.1 w.2.2 F[i] :: q_gv w F (q_gr K F.length g (i + 1)) := by
      show q_xv w.1 w.2.2 (F.getD i []) :: _ = _
      rw [gd]
      rfl
    rw [gvc, q_pvc]
    unfold tw_MO_resume tw_MO_rowOf_r94
    cases hz : q_xv w.1 w.2.2 F[i] with
    | none =>
      rw [hz] at X
      have X : R = some (iN 0, iN 124000, iN 124000, iN 4100, false, r.2.2) := X
      rw [X, obs6, obs4, if_pos (show iN 0 = 0 from rfl)]
      dsimp only
      rw [r_109n (show 0 < fu by omega), if_pos (show b2i false = 0 from rfl)]
      exact ih (i + 1) n r.2.1 ikd iat A D r st0 (by omega) (by omega) (by omega) (by omega) hs hb hr hit hDA
    | some z =>
      rw [hz] at X
      obtain ⟨st', x1, x2, x3⟩ := X
      obtain ⟨zl, zo⟩ := q_xvp ho d2 d3 (by omega) hz
      have zo16 : q_ok 16 z.1 z.2 := q_okm zo (by omega)
      have kz := q_okn zo
      obtain ⟨st1, m1, m2⟩ := q_Wn (st' := st') (by omega) hr (fun j hj => x3 j (by omega))
      have it' : q_its st' ikd iat G r.1 D := q_itf hit (Nat.le_refl _) (fun j u v => x3 j (by omega))
      have hs1 : sm st1 e (q_e1 w) := sm_fr hs (fun j u v => m1 j (by omega))
      have hb1 : q_rb st1 0 dcs tot frm siz F := q_rbf hb (fun j u v => m1 j (by omega))
      have r109 := fun (C' : Bool → Int32 → q_C9) => r_109 (fu := fu) (G := G) (T := r.1) (u := u) (dcs := dcs) (frm := frm) (grp := grp) (st := st') (ikd := ikd) (iat := iat) (x2 := iN e) (x3 := iN g) (x5 := iN G) (x6 := x6) (x7 := iN i) (x10 := iN (124000 + z.2.length) - 124000) (top := iN r.1) (bgn := iN G) (mst := 2001) (ovr := r.2.1) (dfl := r.2.1) (C := C') (D := D) (z := z) (by omega) (by omega) (by omega) it' x2 zo16 zl D.length 0 fu (by omega) (by omega)
      rw [x1, obs6, obs4, if_neg (by simp (disch := omega) only [i_0, iN_a, iN_c, iN_le, iN_lt, iN_eq, iN_i]; omega)]
      dsimp only
      obtain ⟨x12', q1⟩ := r109 _
      rw [show iN 0 = (0 : Int32) from rfl] at q1
      rw [q1, List.drop_zero]
      try dsimp only
      rw [q_kps]
      have nl := q_nAl u A z
      -- the next one
      have next : ∀ (dfl2 : Bool) (ikd2 iat2 : Nat → Int32) (D2 : List q_V) (r' : q_R), D2.length ≤ i + 1 → q_W G 2001 t o st1 ([0, 0, 0, 0] ++ q_en (q_rn 0 (q_nA u A z))) r' → q_its r'.2.2 ikd2 iat2 G r'.1 D2 → (r'.2.1 = false → D2 = q_nA u A z) → ∃ its' dfl' ikd' iat' r2 st2, tw_MO_rowOf_h20 fu dcs frm grp C (iN e) (iN g) (b2i u) (iN G) x6 n (iN (i + 1)) (iN r'.1) (iN G) (iN 2001) r'.2.1 (iN D2.length) dfl2 r'.2.2 ikd2 iat2 = C (iN F.length) (iN r2.1) (iN G) (iN 2001) r2.2.1 its' dfl' r2.2.2 ikd' iat' ∧ (∀ j, j < 124000 ∨ 132300 ≤ j → st2 j = st0 j) ∧ q_W G 2001 t o st2 ([0, 0, 0, 0] ++ q_en (q_rn 0 (q_nA u A z ++ q_kpt u (q_nA u A z) (q_pv (q_gv w F (q_gr K F.length g (i + 1))))))) r2 := by
        intro dfl2 ikd2 iat2 D2 r' h1 h2 h3 h4
        obtain ⟨a1, a2, a3, a4, a5, a6, w1, w2, w3⟩ := ih (i + 1) n dfl2 ikd2 iat2 (q_nA u A z) D2 r' st1 (by omega) (by omega) (by omega) h1 hs1 hb1 h2 h3 h4
        exact ⟨a1, a2, a3, a4, a5, a6, w1, fun j hj => (w2 j hj).trans (m1 j hj), w3⟩
      -- three writes
      obtain ⟨s1, a1, a2⟩ := r_wr (fu := fu) (g := G) (m := 2001) (t := r.1) (o := r.2.1) (st := st') (y := z.1) (by omega) (by omega) (by omega)
      obtain ⟨s2, b1, b2⟩ := r_pd (fu := fu) (g := G) (m := 2001) (t := s1.1) (v := D.length) (o := s1.2.1) (st := s1.2.2) (by omega) (by omega) (by have := a2.2.1; omega) a2.2.2.1
      have t2 := b2.2.1
      have t1 := a2.2.1
      obtain ⟨s3, c1, c2⟩ := r_cp (fu := fu) (g := G) (m := 2001) (a := 124000) (t := s2.1) (o := s2.2.1) (st := s2.2.2) (l := z.2) (by omega) (sm_fr x2 (fun j u v => by rw [b2.1 j (by omega), a2.1 j (by omega)])) (by omega) (by omega) (by omega) b2.2.2.1 (by omega)
      have t3 := c2.2.1
      have t4 := c2.2.2.1
      have f3 : ∀ j, j < r.1 ∨ G + 2001 ≤ j → s3.2.2 j = st' j := fun j hj => by rw [c2.1 j (by omega), b2.1 j (by omega), a2.1 j (by omega)]
      have it3 : q_its s3.2.2 ikd iat G s3.1 D := q_itf it' (by omega) (fun j u v => f3 j (by omega))
      by_cases ov : r.2.1 = true
      · -- no room any more
        have o1 : s1.2.1 = true := a2.2.2.2.2 (fun q => by rw [ov] at q; cases q.1)
        have o2 : s2.2.1 = true := b2.2.2.2.2 (fun q => by rw [o1] at q; cases q.1)
        have o3 : s3.2.1 = true := c2.2.2.2.2 (fun q => by rw [o2] at q; cases q.1)
        have len : (([0, 0, 0, 0] : List UInt8) ++ q_en (q_rn 0 A)).length ≤ (([0, 0, 0, 0] : List UInt8) ++ q_en (q_rn 0 (q_nA u A z))).length := by
          rw [List.length_append, List.length_append]
          omega
        cases hy : (if u = true then !(D.any (fun w => decide (q_ov2 20 w z = 0))) else true) with
        | false =>
          rw [if_pos (show b2i false = 0 from rfl)]
          exact next r.2.1 ikd iat D (r.1, r.2.1, st') (by omega) (q_Wov m2 ov len (fun _ _ => rfl) (Nat.le_refl _) r3 ov) it' (fun q => by
            have q : r.2.1 = false := q
            rw [ov] at q
            cases q)
        | true =>
          rw [if_neg (show ¬ b2i true = 0 by decide), show (2001 : Int32) = iN 2001 from rfl, a1, q_o3e, b1, q_o3e, show (124000 : Int32) = iN 124000 from rfl, iN_s (by omega), show 124000 + z.2.length - 124000 = z.2.length by omega, c1, q_o3e, o3, if_neg (show ¬ b2i true = 0 by decide)]
          rw [← o3]
          exact next r.2.1 ikd iat D s3 (by omega) (q_Wov m2 ov len f3 (by show r.1 ≤ s3.1; omega) t4 o3) it3 (fun q => by rw [o3] at q; cases q)
      · have ov : r.2.1 = false := by
          cases hq : r.2.1
          · rfl
          · exact absurd hq ov
        have DA := hDA ov
        subst DA
        have same : (if u = true then !(D.any (fun w => decide (q_ov2 20 w z = 0))) else true) = !(u && D.any (fun w => decide (q_ov2 20 w z = 0))) := by
          cases u <;> simp
        rw [same]
        cases hy : (u && D.any (fun w => decide (q_ov2 20 w z = 0))) with
        | true =>
          have nA : q_nA u D z = D := by
            unfold q_nA
            rw [if_pos hy]
          rw [show (!true) = false from rfl, if_pos (show b2i false = 0 from rfl)]
          rw [nA] at next ⊢
          exact next r.2.1 ikd iat D (r.1, r.2.1, st') (by omega) m2 it' (fun _ => rfl)
        | false =>
          have nA : q_nA u D z = D ++ [z] := by
            unfold q_nA
            rw [if_neg (by rw [hy]; decide)]
          rw [show (!false) = true from rfl, if_neg (show ¬ b2i true = 0 by decide), show (2001 : Int32) = iN 2001 from rfl, a1, q_o3e, b1, q_o3e, show (124000 : Int32) = iN 124000 from rfl, iN_s (by omega), show 124000 + z.2.length - 124000 = z.2.length by omega, c1, q_o3e]
          have W := q_Wa (q_Wa (q_Wa m2 a2) b2) c2
          rw [q_enA] at W
          rw [nA] at next ⊢
          cases ho3 : s3.2.1 with
          | true =>
            rw [if_neg (show ¬ b2i true = 0 by decide), ← ho3]
            exact next r.2.1 ikd iat D s3 (by omega) W it3 (fun q => by rw [ho3] at q; cases q)
          | false =>
            rw [if_pos (show b2i false = 0 from rfl), if_pos (by simp (disch := omega) only [i_0, i_2000, iN_a, iN_c, iN_le, iN_lt, iN_eq, iN_i]; omega), ← ho3, show iN D.length + 1 = iN (D ++ [z]).length by rw [List.length_append, List.length_singleton]; exact iN_a _ 1, iN_c (by omega)]
            have cfit : s2.2.1 = false ∧ s2.1 + z.2.length ≤ G + 2001 := by
              by_cases q : s2.2.1 = false ∧ s2.1 + z.2.length ≤ G + 2001
              · exact q
              · have := c2.2.2.2.2 q
                rw [ho3] at this
                cases this
            obtain ⟨k1, k2, k3⟩ := c2.2.2.2.1 cfit
            refine next r.2.1 _ _ (D ++ [z]) s3 (by rw [List.length_append, List.length_singleton]; omega) W ?_ (fun _ => rfl)
            intro j y hj
            have jl := (List.getElem?_eq_some_iff.1 hj).1
            rw [List.length_append, List.length_singleton] at jl
            by_cases cj : j = D.length
            · subst cj
              rw [List.getElem?_append_right (Nat.le_refl _), Nat.sub_self] at hj
              cases hj
              rw [q_upe, q_upe]
              exact ⟨rfl, s2.1, rfl, k3, by omega, by omega, zo16, zl⟩
            · rw [List.getElem?_append_left (by omega)] at hj
              rw [q_upn cj, q_upn cj]
              exact it3 j y hj
