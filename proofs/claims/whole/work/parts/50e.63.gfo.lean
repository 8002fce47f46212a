/-! the pure part: what is wrong with a $group -/
def q_gpf (y : q_P) : Nat := if q_pln y.2.1 = true then (if y.1 = 3 then (match q_ps y.2.2 with | [w] => if q_wk w.2.1 = 0 then 2 else if q_wk w.2.1 = 1 then (if w.1 = 10 then 0 else 2) else q_xf w.1 w.2.2 | _ => 2) else 2) else 2
def q_gff : List q_P → Nat
  | [] => 0
  | y :: r => if q_gpf y = 0 then q_gff r else q_gpf y
theorem q_gffc (y : q_P) (r : List q_P) : q_gff (y :: r) = if q_gpf y = 0 then q_gff r else q_gpf y := rfl
def q_gfo (ps : List q_P) : Nat := match ps with | [] => 2 | x :: r => if x.2.1 = q_sn 7 then (if q_xf x.1 x.2.2 = 0 then q_gff r else 3) else 2
def q_ft3 (k : UInt8) (v : List UInt8) : Nat := if k = 3 then q_gfo (q_ps v) else 2
theorem q_xf3 {k : UInt8} {v : List UInt8} (h : q_xf k v ≠ 0) : q_xf k v = 3 := by
  unfold q_xf at h ⊢
  by_cases c : q_ex k v = true
  · rw [if_pos c] at h ⊢
    by_cases c2 : (q_po (q_xt v)).isSome = true
    · rw [if_pos c2] at h
      exact absurd rfl h
    · rw [if_neg c2]
  · rw [if_neg c] at h
    exact absurd rfl h
theorem q_wk9 (nm : List UInt8) : q_wk nm < 9 := by
  unfold q_wk
  repeat' split
  all_goals decide
theorem q_gpx {y w : q_P} (h1 : q_pln y.2.1 = true) (h2 : y.1 = 3) (h3 : q_ps y.2.2 = [w]) : q_gpf y = if q_wk w.2.1 = 0 then 2 else if q_wk w.2.1 = 1 then (if w.1 = 10 then 0 else 2) else q_xf w.1 w.2.2 := by
  unfold q_gpf
  rw [if_pos h1, if_pos h2, h3]
theorem q_gpn {y : q_P} (h1 : q_pln y.2.1 = true) (h2 : y.1 = 3) (h3 : (q_ps y.2.2).length ≠ 1) : q_gpf y = 2 := by
  unfold q_gpf
  rw [if_pos h1, if_pos h2]
  cases hq : q_ps y.2.2 with
  | nil => rfl
  | cons a r =>
    cases r with
    | nil =>
      rw [hq] at h3
      exact absurd rfl h3
    | cons c r => rfl
theorem c_gpf {b : Nat → UInt8} {e d : Nat} {y : q_P} {pcnt pown : Int32} {pfix : Bool} {pst pen pix : Nat → Int32} (h1 : sb b e (q_e1 y)) (hm : (0 : UInt8) ∉ y.2.1) (ho : q_ok d y.1 y.2.2) (he : e + (q_e1 y).length ≤ 2000) :
    ∃ pc pf po ps' pe px, tw_GR_faultOfPart b pcnt pfix pown pst pen pix (iN (e + 1)) (iN (e + 1 + y.2.1.length)) (iN (32 * (e + y.2.1.length + 2) + y.1.toNat)) = (iN (q_gpf y), pc, pf, po, ps', pe, px) := by
  have e1 := q_e1l y
  have ky := (q_okn ho).1
  have s1 := sb_e1 h1
  unfold tw_GR_faultOfPart
  rw [c_pl s1.2.1 (by omega), show tw_ST_kindOf (iN (32 * (e + y.2.1.length + 2) + y.1.toNat)) = iN y.1.toNat from q_k (by omega) ky]
  by_cases c1 : q_pln y.2.1 = true
  rotate_left
  · have c1' : q_pln y.2.1 = false := by
      cases hc : q_pln y.2.1
      · rfl
      · exact absurd hc c1
    have g : q_gpf y = 2 := by
      unfold q_gpf
      rw [if_neg c1]
    rw [c1', if_pos (show b2i false = 0 from rfl), g]
    exact ⟨_, _, _, _, _, _, rfl⟩
  rw [c1, if_neg (show ¬ b2i true = 0 by decide)]
  by_cases c2 : y.1 = 3
  rotate_left
  · have g : q_gpf y = 2 := by
      unfold q_gpf
      rw [if_pos c1, if_neg c2]
    rw [if_neg (fun z => c2 (by rw [show (3 : Int32) = iN 3 from rfl, iN_eq (by omega) (by omega), q_ko y.1 3 (by omega)] at z; exact z)), g]
    exact ⟨_, _, _, _, _, _, rfl⟩
  have ho3 := ho
  rw [c2] at ho3
  obtain ⟨e', ws, _, ew, o1, o2⟩ := q_okd ho3 (Or.inl rfl)
  have sv := s1.2.2.2
  rw [ew] at sv
  have bl := q_bxl ws
  have yl : y.2.2.length = (q_bx ws).length := by rw [ew]
  have psw : q_ps y.2.2 = ws := q_psb' ew o1 (by omega)
  rw [if_pos (show iN y.1.toNat = 3 by rw [c2]; rfl), q_cp (Or.inl c2) sv o1 (by omega) (by omega)]
  by_cases c3 : ws.length = 1
  rotate_left
  · rw [if_neg (by have := q_psl ws; simp (disch := omega) only [i_1, iN_a, iN_c, iN_le, iN_lt, iN_eq, iN_i]; omega), q_gpn c1 c2 (by rw [psw]; exact c3)]
    exact ⟨_, _, _, _, _, _, rfl⟩
  obtain ⟨w, rfl⟩ : ∃ w, ws = [w] := List.length_eq_one_iff.1 c3
  have wm := o1 w List.mem_cons_self
  have sx := sb_bx sv
  have sw := (sb_en sx.2.1).1
  have w1 := q_e1l w
  have wl : (q_en [w]).length = (q_e1 w).length := by
    rw [q_enc]
    simp [q_en]
  have kw := (q_okn wm.2).1
  have tb : tw_GR_toldBy b (iN (32 * (e + y.2.1.length + 2) + y.1.toNat)) = iN (32 * (e + y.2.1.length + 2 + 4 + w.2.1.length + 2) + w.1.toNat) := by
    unfold tw_GR_toldBy
    rw [show tw_ST_placeOf (iN (32 * (e + y.2.1.length + 2) + y.1.toNat)) = iN (e + y.2.1.length + 2) from q_p (by omega) ky, show iN (e + y.2.1.length + 2) + 4 = iN (e + y.2.1.length + 2 + 4) from iN_a _ 4, q_vo sw kw wm.1 (by omega)]
  have sW := (sb_e1 sw).2.2.2
  have re := c_re (pcnt := pcnt) (pown := pown) (pfix := pfix) (pst := pst) (pen := pen) (pix := pix) wm.2 sW (by omega)
  have w9 := q_wk9 w.2.1
  rw [if_pos (show iN [w].length = 1 from rfl), c_wk (Or.inl c2) sv o1 (by omega), tb, q_gpx c1 c2 psw]
  by_cases k0 : q_wk w.2.1 = 0
  · rw [if_pos (show iN (q_wk w.2.1) = 0 by rw [k0]; rfl), if_pos k0]
    exact ⟨_, _, _, _, _, _, rfl⟩
  rw [if_neg (by simp (disch := omega) only [i_0, iN_a, iN_c, iN_le, iN_lt, iN_eq, iN_i]; omega), if_neg k0]
  by_cases k1 : q_wk w.2.1 = 1
  · rw [if_pos (show iN (q_wk w.2.1) = 1 by rw [k1]; rfl), if_pos k1, show tw_ST_kindOf (iN (32 * (e + y.2.1.length + 2 + 4 + w.2.1.length + 2) + w.1.toNat)) = iN w.1.toNat from q_k (by omega) kw]
    by_cases k10 : w.1 = 10
    · rw [if_pos (show iN w.1.toNat = 10 by rw [k10]; rfl), if_pos k10, if_pos (show iN (q_wk w.2.1) = 1 by rw [k1]; rfl)]
      exact ⟨_, _, _, _, _, _, rfl⟩
    · rw [if_neg (fun z => k10 (by rw [show (10 : Int32) = iN 10 from rfl, iN_eq (by omega) (by omega), q_ko w.1 10 (by omega)] at z; exact z)), if_neg k10]
      exact ⟨_, _, _, _, _, _, rfl⟩
  · rw [if_neg (by simp (disch := omega) only [i_1, iN_a, iN_c, iN_le, iN_lt, iN_eq, iN_i]; omega), if_neg k1, if_neg (by simp (disch := omega) only [i_1, iN_a, iN_c, iN_le, iN_lt, iN_eq, iN_i]; omega), q_tp7]
    by_cases c5 : q_xf w.1 w.2.2 = 0
    · obtain ⟨pc, pf, po, ps', pe, px, t1, _⟩ := re.1 c5
      rw [t1, c5]
      exact ⟨_, _, _, _, _, _, rfl⟩
    · rw [re.2 c5, q_xf3 c5, if_pos (show b2i false = 0 from rfl)]
      exact ⟨_, _, _, _, _, _, rfl⟩
theorem c_gfo_h {b : Nat → UInt8} {d P : Nat} (hP : P < 2000) : ∀ (ps : List q_P) (e n i : Nat) (pcnt pown : Int32) (pfix : Bool) (pst pen pix : Nat → Int32), sb b e (q_en ps) → q_op d ps → P = e + (q_en ps).length → ps.length < n → 0 < i → i + ps.length ≤ 1000 →
    ∃ pc pf po ps' pe px, tw_GR_faultOf_h43 b (iN P) n (iN e) (iN i) pcnt pfix pown pst pen pix = (iN (q_gff ps), pc, pf, po, ps', pe, px) := by
  intro ps
  induction ps with
  | nil =>
    intro e n i pcnt pown pfix pst pen pix _ _ he hn _ hi
    obtain ⟨n, rfl⟩ : ∃ m, n = m + 1 := ⟨n - 1, by omega⟩
    simp only [q_en, List.length_nil, Nat.add_zero] at he
    subst he
    unfold tw_GR_faultOf_h43
    rw [if_pos (Int32.le_refl _), ite_self]
    exact ⟨_, _, _, _, _, _, rfl⟩
  | cons x r ih =>
    intro e n i pcnt pown pfix pst pen pix h ho he hn hi0 hi
    rw [List.length_cons] at hn hi
    obtain ⟨n, rfl⟩ : ∃ m, n = m + 1 := ⟨n - 1, by omega⟩
    obtain ⟨h1, h2⟩ := sb_en h
    obtain ⟨ha, hb⟩ := ho x List.mem_cons_self
    have e1 := q_e1l x
    have e2 := q_enl x r
    have kx := (q_okn hb).1
    have s1 := sb_e1 h1
    have pl2 : tw_ST_placeOf (iN (32 * (e + x.2.1.length + 2) + x.1.toNat)) = iN (e + x.2.1.length + 2) := q_p (by omega) kx
    obtain ⟨pc, pf, po, ps', pe, px, t1⟩ := c_gpf (pcnt := pcnt) (pown := pown) (pfix := pfix) (pst := pst) (pen := pen) (pix := pix) h1 ha hb (by omega)
    unfold tw_GR_faultOf_h43
    rw [if_neg (by simp (disch := omega) only [i_1000, iN_a, iN_c, iN_le, iN_lt, iN_eq, iN_i]; omega), if_neg (by simp (disch := omega) only [iN_a, iN_c, iN_le, iN_lt, iN_eq, iN_i]; omega), if_neg (by simp (disch := omega) only [i_0, iN_a, iN_c, iN_le, iN_lt, iN_eq, iN_i]; omega), q_vo h1 kx ha (by omega), q_eo hb s1.2.2.2 (by omega), pl2, iN_s1 (by omega), show e + x.2.1.length + 2 - 1 = e + 1 + x.2.1.length by omega, show iN e + 1 = iN (e + 1) from iN_a e 1, t1, q_tp7, q_gffc]
    try dsimp only
    by_cases c : q_gpf x = 0
    · rw [if_pos c, c, if_pos (show iN 0 = 0 from rfl), show iN i + 1 = iN (i + 1) from iN_a i 1, show e + x.2.1.length + 2 + x.2.2.length = e + (q_e1 x).length by omega]
      exact ih (e + (q_e1 x).length) n (i + 1) _ _ _ _ _ _ h2 (fun y hy => ho y (List.mem_cons_of_mem _ hy)) (by omega) (by omega) (by omega) (by omega)
    · have g3 : q_gpf x < 4 := by
        unfold q_gpf q_xf
        repeat' split
        all_goals decide
      rw [if_neg c, if_neg (by simp (disch := omega) only [i_0, iN_a, iN_c, iN_le, iN_lt, iN_eq, iN_i]; omega)]
      exact ⟨_, _, _, _, _, _, rfl⟩
theorem c_gfo {b : Nat → UInt8} {D p : Nat} {k : UInt8} {v : List UInt8} {pcnt pown : Int32} {pfix : Bool} {pst pen pix : Nat → Int32} (ho : q_ok D k v) (h : sb b p v) (hp : p + v.length ≤ 2000) :
    ∃ pc pf po ps' pe px, tw_GR_faultOf b pcnt pfix pown pst pen pix (iN (32 * p + k.toNat)) = (iN (q_ft3 k v), pc, pf, po, ps', pe, px) := by
  have kk := (q_okn ho).1
  unfold tw_GR_faultOf q_ft3
  rw [show tw_ST_kindOf (iN (32 * p + k.toNat)) = iN k.toNat from q_k (by omega) kk]
  by_cases c : k = 3
  rotate_left
  · rw [if_neg c, if_neg (fun z => c (by rw [show (3 : Int32) = iN 3 from rfl, iN_eq (by omega) (by omega), q_ko k 3 (by omega)] at z; exact z))]
    exact ⟨_, _, _, _, _, _, rfl⟩
  subst c
  obtain ⟨e, ps, _, rfl, o1, o2⟩ := q_okd ho (Or.inl rfl)
  have bl := q_bxl ps
  have pl := q_psl ps
  have eo := q_eo (b := b) (p := p) ho h (by omega)
  rw [if_pos (show iN (3 : UInt8).toNat = 3 from rfl), if_pos rfl, q_cp (Or.inl rfl) h o1 (by omega) (by omega), q_psb o1 (by omega), eo, show tw_ST_placeOf (iN (32 * p + (3 : UInt8).toNat)) = iN p from q_p (by omega) kk, iN_s1 (by omega), show iN p + 4 = iN (p + 4) from iN_a p 4]
  cases ps with
  | nil =>
    rw [if_neg (show ¬ 1 ≤ iN ([] : List q_P).length by decide)]
    exact ⟨_, _, _, _, _, _, rfl⟩
  | cons x r =>
    rw [if_pos (by rw [List.length_cons] at pl ⊢; simp (disch := omega) only [i_1, iN_a, iN_c, iN_le, iN_lt, iN_eq, iN_i]; omega)]
    have hs := (sb_bx h).2.1
    obtain ⟨h1, h2⟩ := sb_en hs
    obtain ⟨ha, hb⟩ := o1 x List.mem_cons_self
    have e1 := q_e1l x
    have e2 := q_enl x r
    have kx := (q_okn hb).1
    have s1 := sb_e1 h1
    have pl2 : tw_ST_placeOf (iN (32 * (p + 4 + x.2.1.length + 2) + x.1.toNat)) = iN (p + 4 + x.2.1.length + 2) := q_p (by omega) kx
    have re := c_re (pcnt := pcnt) (pown := pown) (pfix := pfix) (pst := pst) (pen := pen) (pix := pix) hb s1.2.2.2 (by omega)
    show ∃ pc pf po ps' pe px, _ = (iN (if x.2.1 = q_sn 7 then (if q_xf x.1 x.2.2 = 0 then q_gff r else 3) else 2), pc, pf, po, ps', pe, px)
    rw [List.length_cons] at pl
    generalize hn : ((1000 : Int32).toInt - (0 : Int32).toInt).toNat + 1 = n
    have hn' : n = 1001 := by rw [← hn]; decide
    obtain ⟨n, rfl⟩ : ∃ m, n = m + 1 := ⟨n - 1, by omega⟩
    unfold tw_GR_faultOf_h43 tw_GR_faultOfKey
    rw [if_neg (show ¬ (1000 : Int32) ≤ 0 by decide), if_neg (by simp (disch := omega) only [iN_a, iN_c, iN_le, iN_lt, iN_eq, iN_i]; omega), if_pos (show (0 : Int32) = 0 from rfl), q_vo h1 kx ha (by omega), q_eo hb s1.2.2.2 (by omega), pl2, iN_s1 (by omega), show p + 4 + x.2.1.length + 2 - 1 = p + 4 + 1 + x.2.1.length by omega, show iN (p + 4) + 1 = iN (p + 4 + 1) from iN_a _ 1, c_nd (by omega) s1.2.1 (by omega), q_b2]
    by_cases c1 : x.2.1 = q_sn 7
    rotate_left
    · rw [if_neg c1, if_neg c1, q_tp7]
      try dsimp only
      rw [if_neg (show ¬ (2 : Int32) = 0 by decide)]
      exact ⟨_, _, _, _, _, _, rfl⟩
    rw [if_pos c1, if_pos c1, q_tp7, q_tp7]
    try dsimp only
    by_cases c2 : q_xf x.1 x.2.2 = 0
    · obtain ⟨pc, pf, po, ps', pe, px, t1, _⟩ := re.1 c2
      rw [t1, if_pos c2]
      try dsimp only
      rw [if_neg (show ¬ b2i true = 0 by decide)]
      try dsimp only
      rw [if_pos (show (0 : Int32) = 0 from rfl), show (0 : Int32) + 1 = iN 1 from rfl, show p + 4 + x.2.1.length + 2 + x.2.2.length = p + 4 + (q_e1 x).length by omega]
      exact c_gfo_h (by omega) r (p + 4 + (q_e1 x).length) n 1 _ _ _ _ _ _ h2 (fun y hy => o1 y (List.mem_cons_of_mem _ hy)) (by omega) (by omega) (by omega) (by omega)
    · rw [re.2 c2, if_neg c2, if_pos (show b2i false = 0 from rfl)]
      try dsimp only
      rw [if_neg (show ¬ (3 : Int32) = 0 by decide)]
      exact ⟨_, _, _, _, _, _, rfl⟩
theorem r_gfo_h {fu d : Nat} {st : Nat → Int32} {K : Int32 → Option Int32} (hK : ∀ x, K x = some 0) (hf : 2500 ≤ fu) : ∀ (ps : List q_P) (e n : Nat), sm st e (q_en ps ++ [0]) → q_op d ps → 0 < e → e + (q_en ps).length < 136400 → (q_en ps).length ≤ 2000 → ps.length < n →
    tw_MO_groupFault_h39 fu K st n (iN (q_pt e ps)) = some (iN (q_gff ps)) := by
  intro ps
  induction ps with
  | nil =>
    intro e n _ _ _ _ _ hn
    obtain ⟨n, rfl⟩ : ∃ m, n = m + 1 := ⟨n - 1, by omega⟩
    show K 0 = _
    exact hK _
  | cons y r ih =>
    intro e n h ho he hp hl hn
    obtain ⟨n, rfl⟩ : ∃ m, n = m + 1 := ⟨n - 1, by omega⟩
    obtain ⟨h1, h2⟩ := sm_en h
    obtain ⟨hm, hb⟩ := ho y List.mem_cons_self
    have e1 := q_e1l y
    have e2 := q_enl y r
    have s1 := sm_e1 h1
    have ky := (q_okn hb).1
    rw [List.length_cons] at hn
    have I := ih _ n h2 (fun y hy => ho y (List.mem_cons_of_mem _ hy)) (by omega) (by omega) (by omega) (by omega)
    unfold tw_MO_groupFault_h39
    rw [q_ptc, if_neg (by simp (disch := omega) only [i_0, iN_a, iN_c, iN_le, iN_lt, iN_eq, iN_i]; omega), r_ipn h1 hm (by omega) (by omega), obs1, if_pos (show 0 ≤ iN e ∧ iN e < 136400 by simp (disch := omega) only [i_0, i_136400, iN_a, iN_c, iN_le, iN_lt, iN_eq, iN_i]; omega), iN_c (by omega), s1.1, r_no h ho (by omega) (by omega), obs1, I, q_gffc]
    by_cases c1 : q_pln y.2.1 = true
    rotate_left
    · have c1' : q_pln y.2.1 = false := by
        cases hc : q_pln y.2.1
        · rfl
        · exact absurd hc c1
      have g : q_gpf y = 2 := by
        unfold q_gpf
        rw [if_neg c1]
      rw [c1', if_pos (show b2i false = 0 from rfl), g]
      rfl
    rw [c1, if_neg (show ¬ b2i true = 0 by decide)]
    by_cases c2 : y.1 = 3
    rotate_left
    · have g : q_gpf y = 2 := by
        unfold q_gpf
        rw [if_pos c1, if_neg c2]
      rw [if_neg (fun z => c2 (by rw [show (3 : Int32) = iN 3 from rfl, iN_eq (by omega) (by omega), q_ko y.1 3 (by omega)] at z; exact z)), g]
      rfl
    have ho3 := hb
    rw [c2] at ho3
    obtain ⟨e', ws, _, ew, o1, o2⟩ := q_okd ho3 (Or.inl rfl)
    have sv := s1.2.2.2
    rw [ew] at sv
    have bl := q_bxl ws
    have yl : y.2.2.length = (q_bx ws).length := by rw [ew]
    have psw : q_ps y.2.2 = ws := q_psb' ew o1 (by omega)
    rw [if_pos (show iN y.1.toNat = 3 by rw [c2]; rfl), r_vo h1 hm (by omega) (by omega), obs1, r_co sv o1 (by omega) (by omega) hf, obs1]
    by_cases c3 : ws.length = 1
    rotate_left
    · rw [if_neg (by have := q_psl ws; simp (disch := omega) only [i_1, iN_a, iN_c, iN_le, iN_lt, iN_eq, iN_i]; omega), q_gpn c1 c2 (by rw [psw]; exact c3)]
      rfl
    obtain ⟨w, rfl⟩ : ∃ w, ws = [w] := List.length_eq_one_iff.1 c3
    have wm := o1 w List.mem_cons_self
    have sw : sm st (e + y.2.1.length + 2 + 4) (q_e1 w) := (sm_en (sm_ap.1 sv).2).1
    have w1 := q_e1l w
    have wl : (q_en [w]).length = (q_e1 w).length := by
      rw [q_enc]
      simp [q_en]
    have kw := (q_okn wm.2).1
    have w9 := q_wk9 w.2.1
    have sw1 := sm_e1 sw
    rw [if_pos (show iN [w].length = 1 from rfl), r_fo sv o1 (by omega), obs1, q_ptc, r_go sw wm.1 (by omega) (by omega), obs1, r_xf sw wm.1 wm.2 (by omega) (by omega) hf, obs1, q_gpx c1 c2 psw]
    unfold tw_MO_groupFault_r95
    by_cases k0 : q_wk w.2.1 = 0
    · rw [if_pos (show iN (q_wk w.2.1) = 0 by rw [k0]; rfl), if_pos k0]
      rfl
    rw [if_neg (by simp (disch := omega) only [i_0, iN_a, iN_c, iN_le, iN_lt, iN_eq, iN_i]; omega), if_neg k0]
    by_cases k1 : q_wk w.2.1 = 1
    · rw [if_pos (show iN (q_wk w.2.1) = 1 by rw [k1]; rfl), if_pos k1, if_pos (by simp (disch := omega) only [i_0, i_136400, iN_a, iN_c, iN_le, iN_lt, iN_eq, iN_i]; omega), iN_c (by omega), sw1.1]
      by_cases k10 : w.1 = 10
      · rw [if_pos (show iN w.1.toNat = 10 by rw [k10]; rfl), if_pos k10, if_pos (show iN (q_wk w.2.1) ≤ 1 by rw [k1]; decide)]
        rfl
      · rw [if_neg (fun z => k10 (by rw [show (10 : Int32) = iN 10 from rfl, iN_eq (by omega) (by omega), q_ko w.1 10 (by omega)] at z; exact z)), if_neg k10]
        rfl
    · rw [if_neg (by simp (disch := omega) only [i_1, iN_a, iN_c, iN_le, iN_lt, iN_eq, iN_i]; omega), if_neg k1, if_neg (by simp (disch := omega) only [i_1, iN_a, iN_c, iN_le, iN_lt, iN_eq, iN_i]; omega)]
      by_cases c5 : q_xf w.1 w.2.2 = 0
      · rw [c5, if_pos (show iN 0 ≤ 0 by decide)]
        rfl
      · rw [q_xf3 c5, if_neg (show ¬ iN 3 ≤ 0 by decide)]
        rfl
theorem r_gfo {fu d p : Nat} {st : Nat → Int32} {ps : List q_P} (h : sm st p (q_bx ps)) (ho : q_op d ps) (hp : p + (q_bx ps).length ≤ 136400) (hl : (q_bx ps).length ≤ 2000) (hf : 2500 ≤ fu) :
    tw_MO_groupFault fu st (iN p) = some (iN (q_gfo ps)) := by
  have bl := q_bxl ps
  have pl := q_psl ps
  unfold tw_MO_groupFault
  rw [r_fo h ho (by omega), obs1]
  cases ps with
  | nil => rfl
  | cons x r =>
    have hs := (sm_ap.1 h).2
    rw [q_l4l] at hs
    obtain ⟨h1, h2⟩ := sm_en hs
    obtain ⟨hm, hb⟩ := ho x List.mem_cons_self
    have e1 := q_e1l x
    have e2 := q_enl x r
    rw [List.length_cons] at pl
    rw [q_ptc, if_neg (by simp (disch := omega) only [i_0, iN_a, iN_c, iN_le, iN_lt, iN_eq, iN_i]; omega), r_nd (w := q_sn 7) h1 hm (by omega) (by decide +kernel) (by decide +kernel) (by decide +kernel) (by have := (q_snl 7 (by omega)).2; omega), obs1, q_b2, r_xf h1 hm hb (by omega) (by omega) hf, obs1, r_no hs ho (by omega) (by omega), obs1, r_gfo_h (fun _ => rfl) hf r (p + 4 + (q_e1 x).length) fu h2 (fun y hy => ho y (List.mem_cons_of_mem _ hy)) (by omega) (by omega) (by omega) (by omega)]
    show _ = some (iN (if x.2.1 = q_sn 7 then (if q_xf x.1 x.2.2 = 0 then q_gff r else 3) else 2))
    by_cases c1 : x.2.1 = q_sn 7
    rotate_left
    · rw [if_neg c1, if_neg c1]
      rfl
    rw [if_pos c1, if_pos c1]
    by_cases c2 : q_xf x.1 x.2.2 = 0
    · rw [c2, if_pos (show iN 0 ≤ 0 by decide), if_pos (show 0 = 0 from rfl)]
    · rw [q_xf3 c2, if_neg (show ¬ iN 3 ≤ 0 by decide), if_neg (show ¬ 3 = 0 by decide)]
      rfl
