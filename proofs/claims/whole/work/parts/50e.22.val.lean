/-! the pure part: the VALUE of a path -/
def q_rn : Nat → List q_V → List q_P
  | _, [] => []
  | i, z :: r => (z.1, q_dg i, z.2) :: q_rn (i + 1) r
def q_va : Nat → List (List UInt8) → q_V → Option q_V
  | 0, _, _ => none
  | _ + 1, [], z => some z
  | d + 1, x :: xs, z =>
    if z.1 = 3 then (match q_fn x (q_ps z.2) with | none => none | some y => q_va d xs (y.2.1, y.2.2.2))
    else if z.1 = 4 then some (4, q_bx (q_rn 0 ((q_ps z.2).filterMap (fun y => if y.1 = 3 then q_va d (x :: xs) (y.1, y.2.2) else none))))
    else none
theorem q_van (d : Nat) (z : q_V) : q_va (d + 1) [] z = some z := rfl
theorem q_vas (d : Nat) (x : List UInt8) (xs : List (List UInt8)) (z : q_V) : q_va (d + 1) (x :: xs) z =
    if z.1 = 3 then (match q_fn x (q_ps z.2) with | none => none | some y => q_va d xs (y.2.1, y.2.2.2))
    else if z.1 = 4 then some (4, q_bx (q_rn 0 ((q_ps z.2).filterMap (fun y => if y.1 = 3 then q_va d (x :: xs) (y.1, y.2.2) else none))))
    else none := rfl
theorem q_rna (D : List q_V) : ∀ (i : Nat) (E : List q_V), q_rn i (D ++ E) = q_rn i D ++ q_rn (i + D.length) E := by
  induction D with
  | nil => exact fun _ _ => rfl
  | cons z D ih =>
    intro i E
    show (z.1, q_dg i, z.2) :: q_rn (i + 1) (D ++ E) = (z.1, q_dg i, z.2) :: (q_rn (i + 1) D ++ q_rn (i + (D.length + 1)) E)
    rw [ih, show i + 1 + D.length = i + (D.length + 1) by omega]
theorem q_rnl (D : List q_V) : ∀ i, (q_rn i D).length = D.length := by
  induction D with
  | nil => exact fun _ => rfl
  | cons z D ih =>
    intro i
    show (q_rn (i + 1) D).length + 1 = D.length + 1
    rw [ih]
theorem q_rnr (D : List q_V) : ∀ i, q_nr i (q_rn i D) := by
  induction D with
  | nil => exact fun _ => trivial
  | cons z D ih => exact fun i => ⟨rfl, ih (i + 1)⟩
theorem q_dg0 (i : Nat) (h : i < 1000) : (0 : UInt8) ∉ q_dg i := by
  have := (show ∀ i, i < 1000 → (0 : UInt8) ∉ q_dg i by decide +kernel) i h
  exact this
theorem q_dgl {i j : Nat} (h : i ≤ j) : (q_dg i).length ≤ (q_dg j).length := by
  unfold q_dg
  by_cases a : i < 10
  · rw [if_pos a]
    split
    · exact Nat.le_refl _
    · split
      · show 1 ≤ 2
        omega
      · show 1 ≤ 3
        omega
  · rw [if_neg a, if_neg (show ¬ j < 10 by omega)]
    by_cases c : i < 100
    · rw [if_pos c]
      split
      · exact Nat.le_refl _
      · show 2 ≤ 3
        omega
    · rw [if_neg c, if_neg (show ¬ j < 100 by omega)]
      exact Nat.le_refl _
theorem q_rnm {D : List q_V} {x : q_P} : ∀ {i : Nat}, x ∈ q_rn i D → (x.1, x.2.2) ∈ D ∧ ∃ j, j < i + D.length ∧ x.2.1 = q_dg j := by
  induction D with
  | nil =>
    intro i h
    cases h
  | cons z D ih =>
    intro i h
    rw [List.length_cons]
    rcases List.mem_cons.1 h with rfl | h
    · exact ⟨List.mem_cons_self, i, by omega, rfl⟩
    · obtain ⟨h1, j, h2, h3⟩ := ih h
      exact ⟨List.mem_cons_of_mem _ h1, j, by omega, h3⟩
/-- a row made of values out of a row's items is no longer than it -/
theorem q_rnb {f : q_P → Option q_V} : ∀ (ps : List q_P) (i c : Nat), q_nr i ps → c ≤ i → (∀ x ∈ ps, ∀ z, f x = some z → z.2.length ≤ x.2.2.length) → (q_en (q_rn c (ps.filterMap f))).length ≤ (q_en ps).length := by
  intro ps
  induction ps with
  | nil => exact fun _ _ _ _ _ => Nat.le_refl _
  | cons x r ih =>
    intro i c h hc hf
    have e2 := q_enl x r
    rw [List.filterMap_cons]
    cases hx : f x with
    | none =>
      have := ih (i + 1) c h.2 (by omega) (fun y hy => hf y (List.mem_cons_of_mem _ hy))
      dsimp only
      omega
    | some z =>
      have := ih (i + 1) (c + 1) h.2 (by omega) (fun y hy => hf y (List.mem_cons_of_mem _ hy))
      have hz := hf x List.mem_cons_self z hx
      dsimp only
      show (q_en ((z.1, q_dg c, z.2) :: q_rn (c + 1) (r.filterMap f))).length ≤ _
      rw [q_enl]
      show (q_dg c).length + z.2.length + 2 + _ ≤ _
      have dl := q_dgl hc
      rw [← h.1] at dl
      omega
theorem q_vap : ∀ (d m : Nat) (k : UInt8) (v : List UInt8) (xs : List (List UInt8)) (z : q_V), q_ok d k v → v.length ≤ 2005 → q_va m xs (k, v) = some z → z.2.length ≤ v.length ∧ q_ok d z.1 z.2 := by
  intro d
  induction d with
  | zero =>
    intro m k v xs z ho hv hz
    cases m with
    | zero => cases xs <;> cases hz
    | succ m =>
      cases xs with
      | nil =>
        rw [q_van] at hz
        injection hz with hz
        subst hz
        exact ⟨Nat.le_refl _, ho⟩
      | cons x xs =>
        rw [q_vas, if_neg (show ¬ k = 3 from fun e => q_lfk ho (Or.inl e)), if_neg (show ¬ k = 4 from fun e => q_lfk ho (Or.inr e))] at hz
        cases hz
  | succ d ih =>
    intro m k v xs z ho hv hz
    cases m with
    | zero => cases xs <;> cases hz
    | succ m =>
      cases xs with
      | nil =>
        rw [q_van] at hz
        injection hz with hz
        subst hz
        exact ⟨Nat.le_refl _, ho⟩
      | cons x xs =>
        rw [q_vas] at hz
        by_cases kb : k = 3 ∨ k = 4
        · obtain ⟨e1, ps, he, rfl, o1, nk⟩ := q_okd ho kb
          obtain rfl : e1 = d := by omega
          simp only [q_psb o1 (show (q_bx ps).length < 4294967296 by omega)] at hz
          rw [q_bxl] at hv ⊢
          by_cases k3 : k = 3
          · rw [if_pos (show k = 3 from k3)] at hz
            cases hy : q_fn x ps with
            | none =>
              rw [hy] at hz
              cases hz
            | some y =>
              rw [hy] at hz
              obtain ⟨f1, f2, a, c2, f3, f4⟩ := q_fnm (o := y.1) (y := y.2) hy
              have := q_enm f1
              obtain ⟨i1, i2⟩ := ih m y.2.1 y.2.2.2 xs z (o1 y.2 f1).2 (by omega) hz
              exact ⟨by omega, q_okm i2 (by omega)⟩
          · have k4 : k = 4 := by
              rcases kb with q | q
              · exact absurd q k3
              · exact q
            rw [if_neg (show ¬ k = 3 from k3), if_pos (show k = 4 from k4)] at hz
            injection hz with hz
            subst hz
            have pl := q_psl ps
            have fb : ∀ y ∈ ps, ∀ z, (if y.1 = 3 then q_va m (x :: xs) (y.1, y.2.2) else none) = some z → z.2.length ≤ y.2.2.length ∧ q_ok e1 z.1 z.2 := by
              intro y hy z hz
              have := q_enm hy
              split at hz
              · exact ih m y.1 y.2.2 (x :: xs) z (o1 y hy).2 (by omega) hz
              · cases hz
            have len := q_rnb (f := fun y => if y.1 = 3 then q_va m (x :: xs) (y.1, y.2.2) else none) ps 0 0 (nk.2 k4) (Nat.le_refl _) (fun y hy z hz => (fb y hy z hz).1)
            have fl := List.length_filterMap_le (fun y : q_P => if y.1 = 3 then q_va m (x :: xs) (y.1, y.2.2) else none) ps
            refine ⟨?_, q_okb (Or.inr rfl) ?_ ⟨fun q => absurd (show (4 : UInt8) = 3 from q) (by decide), fun _ => q_rnr _ 0⟩⟩
            · show (q_bx _).length ≤ _
              rw [q_bxl]
              omega
            · intro y hy
              obtain ⟨r1, j, r2, r3⟩ := q_rnm hy
              refine ⟨?_, ?_⟩
              · rw [r3]
                exact q_dg0 j (by omega)
              · obtain ⟨u, hu, hz⟩ := List.mem_filterMap.1 r1
                exact (fb u hu _ hz).2
        · rw [if_neg (show ¬ k = 3 from fun e => kb (Or.inl e)), if_neg (show ¬ k = 4 from fun e => kb (Or.inr e))] at hz
          cases hz
/-- the reference: the VALUE, written -/
def q_em (g m t : Nat) (st : Nat → Int32) (R : Option (Int32 × Int32 × Bool × (Nat → Int32))) (z : Option q_V) : Prop :=
  match z with
  | none => R = some (iN 0, iN t, false, st)
  | some z => ∃ st', R = some (iN z.1.toNat, iN (t + z.2.length), false, st') ∧ sm st' t z.2 ∧ ∀ j, j < t ∨ g + m ≤ j → st' j = st j
theorem r_em_h {fu g m T a d : Nat} {s : Int32} {x4 : Int32} {fm : Int32 → Bool → (Nat → Int32) → Int32 → Int32 → Int32 → Option (Int32 × Int32 × Bool × (Nat → Int32))} {K : Int32 → Int32 → Int32 → Bool → (Nat → Int32) → Option (Int32 × Int32 × Bool × (Nat → Int32))} {f : q_P → Option q_V} {st0 : Nat → Int32}
    (hfu : 2500 ≤ fu) (hg : g + m ≤ 136400) (hgT : g ≤ T) :
    ∀ (ps : List q_P) (e n i u : Nat) (D : List q_V) (st : Nat → Int32), sm st0 e (q_en ps ++ [0]) → q_op d ps → q_nr i ps → 0 < e → e + (q_en ps).length < T → (q_en ps).length ≤ 2000 → ps.length < n → D.length ≤ i → i + ps.length ≤ 1000 →
    u = T + 4 + (q_en (q_rn 0 D)).length → u + (q_en ps).length + 1 ≤ g + m → sm st T ([0, 0, 0, 0] ++ q_en (q_rn 0 D)) → (∀ j, j < T ∨ g + m ≤ j → st j = st0 j) →
    (∀ y ∈ ps, y.1 ≠ 3 → f y = none) → (∀ y ∈ ps, ∀ z, f y = some z → z.2.length ≤ y.2.2.length ∧ z.1 ≠ 0) →
    (∀ y ∈ ps, y.1 = 3 → ∀ (t p : Nat) (st : Nat → Int32), sm st p y.2.2 → p + y.2.2.length ≤ t → T ≤ t → t + y.2.2.length ≤ g + m → (∀ j, j < T ∨ g + m ≤ j → st j = st0 j) → q_em g m t st (fm (iN t) false st 3 (iN p) s) (f y)) →
    ∃ st', tw_MO_emit_h85 fu fm (iN g) (iN m) K s x4 n (iN D.length) (iN (q_pt e ps)) (iN u) false st = K (iN (D ++ ps.filterMap f).length) (iN 0) (iN (T + 4 + (q_en (q_rn 0 (D ++ ps.filterMap f))).length)) false st' ∧
      sm st' T ([0, 0, 0, 0] ++ q_en (q_rn 0 (D ++ ps.filterMap f))) ∧ (∀ j, j < T ∨ g + m ≤ j → st' j = st0 j) := by
  intro ps
  induction ps with
  | nil =>
    intro e n i u D st _ _ _ _ _ _ hn _ _ hu _ hs hfr _ _ _
    obtain ⟨n, rfl⟩ : ∃ m, n = m + 1 := ⟨n - 1, by omega⟩
    unfold tw_MO_emit_h85
    rw [if_pos (show iN (q_pt e []) ≤ 0 from q_le0), List.filterMap_nil, List.append_nil, ← hu]
    exact ⟨st, rfl, hs, hfr⟩
  | cons y r ih =>
    intro e n i u D st h ho hnr he hp hl hn hD hi hu hroom hs hfr hf3 hfl hfm
    obtain ⟨n, rfl⟩ : ∃ m, n = m + 1 := ⟨n - 1, by omega⟩
    have e1 := q_e1l y
    have e2 := q_enl y r
    rw [List.length_cons] at hn hi
    have h' : sm st e (q_en (y :: r) ++ [0]) := sm_fr h (fun j h1 h2 => hfr j (by rw [List.length_append] at h2; simp at h2; omega))
    obtain ⟨h1, h2⟩ := sm_en h'
    obtain ⟨hm, hb⟩ := ho y List.mem_cons_self
    have s1 := sm_e1 h1
    have uy := q_u8 y.1
    have h3 : sm st0 (e + (q_e1 y).length) (q_en r ++ [0]) := (sm_en h).2
    have IH := fun u D st hD hu hroom hs hfr => ih (e + (q_e1 y).length) n (i + 1) u D st h3 (fun z hz => ho z (List.mem_cons_of_mem _ hz)) hnr.2 (by omega) (by omega) (by omega) (by omega) hD (by omega) hu hroom hs hfr (fun z hz => hf3 z (List.mem_cons_of_mem _ hz)) (fun z hz => hfl z (List.mem_cons_of_mem _ hz)) (fun z hz => hfm z (List.mem_cons_of_mem _ hz))
    have NX : ∀ st' : Nat → Int32, (∀ j, j < T ∨ g + m ≤ j → st' j = st0 j) → tw_MO_nextOf fu st' (iN e) = some (iN (q_pt (e + (q_e1 y).length) r)) := by
      intro st' hst
      have : sm st' e (q_en (y :: r) ++ [0]) := sm_fr h (fun j h1 h2 => hst j (by rw [List.length_append] at h2; simp at h2; omega))
      exact r_no this ho (by omega) (by omega)
    unfold tw_MO_emit_h85
    rw [q_ptc, if_neg (by simp (disch := omega) only [i_0, iN_a, iN_c, iN_le, iN_lt, iN_eq, iN_i]; omega)]
    unfold tw_MO_emit_r90
    rw [if_pos (by simp (disch := omega) only [i_0, i_136400, iN_a, iN_c, iN_le, iN_lt, iN_eq, iN_i]; omega), iN_c (by omega), s1.1, i_3, qy_3]
    rw [List.filterMap_cons]
    by_cases k3 : y.1 = 3
    · rw [if_pos k3]
      have dl := q_dgl hD
      rw [← hnr.1] at dl
      obtain ⟨r1, w1, w2⟩ := r_wr (fu := fu) (g := g) (m := m) (t := u) (o := false) (st := st) (y := 0) (by omega) (by omega) hg
      obtain ⟨wa, wb, wc, wd, _⟩ := w2
      obtain ⟨we, wf, wg⟩ := wd ⟨rfl, by show u + 1 ≤ g + m; omega⟩
      replace we : r1.1 = u + 1 := we
      obtain ⟨r2, x1, x2⟩ := r_pd (fu := fu) (g := g) (m := m) (t := r1.1) (v := D.length) (o := r1.2.1) (st := r1.2.2) (by omega) hg (by omega) wc
      have X := q_Wa (w1 := [0]) (t := u) (o := false) (st := st) ⟨wa, wb, wc, wd, (fun q => absurd ⟨rfl, by show u + 1 ≤ g + m; omega⟩ q)⟩ x2
      obtain ⟨xa, xb, xc, xd, _⟩ := X
      have xl : ([0] ++ (q_dg D.length ++ [0])).length = (q_dg D.length).length + 2 := by
        simp
      obtain ⟨xe, xf, xg⟩ := xd ⟨rfl, by rw [xl]; omega⟩
      rw [xl] at xe
      rw [show (0 : Int32) = iN (0 : UInt8).toNat from rfl, w1]
      unfold q_e3 at w1 x1 ⊢
      rw [obs3, x1]
      rw [obs3]
      have fr2 : ∀ j, j < T ∨ g + m ≤ j → r2.2.2 j = st0 j := by
        intro j hj
        rw [xa j (by omega), hfr j hj]
      have hy2 : sm r2.2.2 e (q_en (y :: r) ++ [0]) := sm_fr h (fun j h1 h2 => fr2 j (by rw [List.length_append] at h2; simp at h2; omega))
      obtain ⟨q1, _⟩ := sm_en hy2
      rw [r_vo q1 hm (by omega) (by omega), obs1, xf]
      have F := hfm y List.mem_cons_self k3 r2.1 (e + y.2.1.length + 2) r2.2.2 (sm_e1 q1).2.2.2 (by omega) (by omega) (by omega) fr2
      cases hfy : f y with
      | none =>
        rw [hfy] at F
        replace F : fm (iN r2.1) false r2.2.2 3 (iN (e + y.2.1.length + 2)) s = some (iN 0, iN r2.1, false, r2.2.2) := F
        rw [show iN 3 = (3 : Int32) from rfl, F, obs4]
        unfold tw_MO_emit_r135
        rw [if_pos (show iN 0 = 0 from rfl)]
        dsimp only
        rw [if_pos (show iN 0 = iN (0 : UInt8).toNat from rfl), NX r2.2.2 fr2, obs1, show iN D.length + iN (0 : UInt8).toNat = iN D.length from iN_a D.length 0]
        refine IH u D r2.2.2 (by omega) hu (by omega) ?_ fr2
        refine sm_fr hs (fun j h1 h2 => xa j (Or.inl ?_))
        rw [List.length_append] at h2
        simp only [List.length_cons, List.length_nil] at h2
        omega
      | some z =>
        rw [hfy] at F
        obtain ⟨st', F1, F2, F3⟩ := F
        obtain ⟨zl, z0⟩ := hfl y List.mem_cons_self z hfy
        have zn : ¬ iN z.1.toNat = iN (0 : UInt8).toNat := by
          intro q
          rw [show iN (0 : UInt8).toNat = iN 0 from rfl, q_y0] at q
          exact z0 q
        rw [show iN 3 = (3 : Int32) from rfl, F1, obs4]
        unfold tw_MO_emit_r135
        rw [if_neg (show ¬ iN z.1.toNat = 0 from zn), if_pos (by simp (disch := omega) only [i_0, i_136400, iN_a, iN_c, iN_le, iN_lt, iN_eq, iN_i]; omega), iN_c (by omega)]
        dsimp only
        have fr3 : ∀ j, j < T ∨ g + m ≤ j → upd st' u (iN z.1.toNat) j = st0 j := by
          intro j hj
          show (if j = u then _ else st' j) = _
          rw [if_neg (by omega), F3 j (by omega), fr2 j hj]
        rw [if_neg zn, NX _ fr3, obs1, show iN D.length + 1 = iN (D ++ [z]).length by rw [List.length_append]; exact iN_a D.length 1]
        have en1 : q_en (q_rn 0 (D ++ [z])) = q_en (q_rn 0 D) ++ q_e1 (z.1, q_dg D.length, z.2) := by
          rw [q_rna, q_ena, Nat.zero_add]
          show _ ++ (q_e1 (z.1, q_dg D.length, z.2) ++ []) = _
          rw [List.append_nil]
        have el1 : (q_e1 (z.1, q_dg D.length, z.2)).length = (q_dg D.length).length + z.2.length + 2 := q_e1l _
        have enl : (q_en (q_rn 0 (D ++ [z]))).length = (q_en (q_rn 0 D)).length + ((q_dg D.length).length + z.2.length + 2) := by
          rw [en1, List.length_append, el1]
        have := IH (r2.1 + z.2.length) (D ++ [z]) (upd st' u (iN z.1.toNat)) (by rw [List.length_append]; simp; omega) (by omega) (by omega) ?_ fr3
        · rw [List.append_assoc] at this
          exact this
        · rw [en1, ← List.append_assoc]
          refine sm_ap.2 ⟨?_, ?_⟩
          · refine sm_fr hs (fun j h1 h2 => ?_)
            rw [List.length_append] at h2
            simp only [List.length_cons, List.length_nil] at h2
            show (if j = u then _ else st' j) = _
            rw [if_neg (by omega), F3 j (by omega), xa j (by omega)]
          · rw [List.length_append]
            simp only [List.length_cons, List.length_nil]
            rw [show T + (0 + 1 + 1 + 1 + 1 + (q_en (q_rn 0 D)).length) = u by omega]
            unfold q_e1
            refine ⟨?_, ?_⟩
            · show (if u = u then _ else _) = _
              rw [if_pos rfl]
            · have e9 : (q_dg D.length ++ 0 :: z.2 : List UInt8) = (q_dg D.length ++ [0]) ++ z.2 := by simp
              show sm _ (u + 1) (q_dg D.length ++ 0 :: z.2)
              rw [e9]
              refine sm_ap.2 ⟨?_, ?_⟩
              · have xg2 : sm r2.2.2 (u + 1) (q_dg D.length ++ [0]) := xg.2
                refine sm_fr xg2 (fun j h1 h2 => ?_)
                rw [List.length_append] at h2
                simp only [List.length_cons, List.length_nil] at h2
                show (if j = u then _ else st' j) = _
                rw [if_neg (by omega), F3 j (by omega)]
              · rw [List.length_append]
                simp only [List.length_cons, List.length_nil]
                rw [show u + 1 + ((q_dg D.length).length + (0 + 1)) = r2.1 by omega]
                refine sm_fr F2 (fun j h1 h2 => ?_)
                show (if j = u then _ else st' j) = _
                rw [if_neg (by omega)]
    · rw [if_neg k3]
      dsimp only
      rw [NX st hfr, obs1]
      rw [hf3 y List.mem_cons_self k3]
      exact IH u D st (by omega) hu (by omega) hs hfr
