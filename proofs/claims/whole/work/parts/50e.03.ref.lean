/-! the pure part: the reference's readers of elements -/
theorem q_y0 (y : UInt8) : (iN y.toNat = iN 0) = (y = 0) := by
  refine propext ⟨fun h => ?_, fun h => by rw [h]; rfl⟩
  have := (iN_eq (by have := q_u8 y; omega) (by omega)).1 h
  exact UInt8.toNat_inj.1 this
theorem q_yk (y : UInt8) (n : Nat) (h : n < 256) : (iN y.toNat = iN n) = (y = UInt8.ofNat n) := by
  refine propext ⟨fun e => ?_, fun e => ?_⟩
  · have := (iN_eq (by have := q_u8 y; omega) (by omega)).1 e
    apply UInt8.toNat_inj.1
    rw [this, UInt8.toNat_ofNat']
    omega
  · rw [e, UInt8.toNat_ofNat', Nat.mod_eq_of_lt h]
/-- where the elements begin; 0 when there are none -/
def q_pt (e : Nat) : List q_P → Nat
  | [] => 0
  | _ :: _ => e
theorem obs1 {T1 Z : Type} (x : T1) (f : T1 → Option Z) : ob1 (some x) f = f x := rfl
theorem obs2 {T1 T2 Z : Type} (x : T1) (y : T2) (f : T1 → T2 → Option Z) : ob2 (some (x, y)) f = f x y := rfl
theorem obs3 {T1 T2 T3 Z : Type} (x : T1) (y : T2) (z : T3) (f : T1 → T2 → T3 → Option Z) : ob3 (some (x, y, z)) f = f x y z := rfl
theorem obs4 {T1 T2 T3 T4 Z : Type} (x : T1) (y : T2) (z : T3) (w : T4) (f : T1 → T2 → T3 → T4 → Option Z) : ob4 (some (x, y, z, w)) f = f x y z w := rfl
theorem q_ptc (e : Nat) (x : q_P) (r : List q_P) : q_pt e (x :: r) = e := rfl
theorem r_wh4 {fu : Nat} {st : Nat → Int32} {p : Nat} {x0 x1 x2 x3 : UInt8} (h0 : st p = iN x0.toNat) (h1 : st (p + 1) = iN x1.toNat) (h2 : st (p + 2) = iN x2.toNat) (h3 : st (p + 3) = iN x3.toNat) (hp : p + 4 ≤ 136400) :
    tw_MO_whole fu st (iN p) = some (iN (q_g4 x0 x1 x2 x3)) := by
  unfold tw_MO_whole
  simp (disch := omega) only [i_0, i_1, i_2, i_3, i_136400, i_256, i_65536, i_16777216, iN_a, iN_c, iN_le, iN_lt, iN_eq, iN_i]
  rw [if_pos ⟨by omega, by omega⟩, if_pos ⟨by omega, by omega⟩, if_pos ⟨by omega, by omega⟩, if_pos ⟨by omega, by omega⟩, h0, h1, h2, h3]
  simp only [iN_m, iN_a]
  rfl
theorem r_wh {fu : Nat} {st : Nat → Int32} {p n : Nat} (h : sm st p (q_l4 n)) (hn : n < 4294967296) (hp : p + 4 ≤ 136400) : tw_MO_whole fu st (iN p) = some (iN n) := by
  obtain ⟨h0, h1, h2, h3, _⟩ := h
  rw [r_wh4 h0 h1 h2 h3 hp, q_l4g hn]
theorem r_ne_h {fu : Nat} {K : Int32 → Option Int32} {st : Nat → Int32} : ∀ (nm : List UInt8) (x n : Nat), sm st x nm → st (x + nm.length) = iN 0 → (0 : UInt8) ∉ nm → x + nm.length < 136400 → nm.length < n →
    tw_MO_nameEndOf_h4 fu K st n (iN x) = K (iN (x + nm.length)) := by
  intro nm
  induction nm with
  | nil =>
    intro x n _ h0 _ hx hn
    obtain ⟨n, rfl⟩ : ∃ m, n = m + 1 := ⟨n - 1, by omega⟩
    unfold tw_MO_nameEndOf_h4
    simp only [List.length_nil, Nat.add_zero] at *
    simp (disch := omega) only [i_0, i_136400, iN_a, iN_c, iN_le, iN_lt, iN_eq, iN_i]
    rw [if_pos ⟨by omega, by omega⟩, if_pos h0]
  | cons y nm ih =>
    intro x n hs h0 hm hx hn
    obtain ⟨n, rfl⟩ : ∃ m, n = m + 1 := ⟨n - 1, by omega⟩
    rw [List.length_cons] at *
    have hy : ¬ st x = iN 0 := by
      rw [hs.1, q_y0]
      intro e
      exact hm (e ▸ List.mem_cons_self)
    unfold tw_MO_nameEndOf_h4
    simp (disch := omega) only [i_0, i_1, i_136400, iN_a, iN_c, iN_le, iN_lt, iN_eq, iN_i]
    rw [if_pos ⟨by omega, by omega⟩, if_neg hy, ih (x + 1) n hs.2 (by rw [← h0]; exact congrArg st (by omega)) (fun e => hm (List.mem_cons_of_mem _ e)) (by omega) (by omega)]
    rw [show x + 1 + nm.length = x + (nm.length + 1) by omega]
theorem r_ne {fu : Nat} {st : Nat → Int32} {p : Nat} {x : q_P} (h : sm st p (q_e1 x)) (hm : (0 : UInt8) ∉ x.2.1) (hp : p + x.2.1.length + 2 ≤ 136400) (hf : x.2.1.length < fu) :
    tw_MO_nameEndOf fu st (iN p) = some (iN (p + x.2.1.length + 1)) := by
  obtain ⟨h0, h1, h2, _⟩ := sm_e1 h
  unfold tw_MO_nameEndOf
  simp only [i_1, iN_a]
  rw [r_ne_h x.2.1 (p + 1) fu h1 h2 hm (by omega) hf]
  exact congrArg some (congrArg iN (by omega))
theorem r_vo {fu : Nat} {st : Nat → Int32} {p : Nat} {x : q_P} (h : sm st p (q_e1 x)) (hm : (0 : UInt8) ∉ x.2.1) (hp : p + x.2.1.length + 2 ≤ 136400) (hf : x.2.1.length < fu) :
    tw_MO_valueOf fu st (iN p) = some (iN (p + x.2.1.length + 2)) := by
  unfold tw_MO_valueOf
  rw [r_ne h hm hp hf]
  show some (iN (p + x.2.1.length + 1) + 1) = _
  simp only [i_1, iN_a]
theorem r_lo {fu : Nat} {st : Nat → Int32} {d p : Nat} {k : UInt8} {v : List UInt8} (ho : q_ok d k v) (h : sm st p v) (hp : p + v.length ≤ 136400) :
    tw_MO_lengthOf fu st (iN k.toNat) (iN p) = some (iN v.length) := by
  unfold tw_MO_lengthOf
  by_cases hk : k = 3 ∨ k = 4
  · obtain ⟨_, ps, _, rfl, _, _⟩ := q_okd ho hk
    rw [q_bxl] at *
    have := r_wh (fu := fu) (sm_bx h).1 (by omega) (by omega)
    rcases hk with rfl | rfl
    · simp only [this]
      rfl
    · simp only [this]
      rfl
  · have := q_okl ho (fun e => hk (Or.inl e)) (fun e => hk (Or.inr e))
    unfold q_lf at this
    rcases this with ⟨rfl, hv⟩ | ⟨rfl, hv⟩ | ⟨rfl, hv⟩ | ⟨rfl, hv⟩ | ⟨rfl, t, rfl⟩
    · rw [hv]
      rfl
    · rw [hv]
      rfl
    · have hv : v.length = 1 := by rcases hv with rfl | rfl <;> rfl
      rw [hv]
      rfl
    · rw [hv]
      rfl
    · rw [q_txl] at *
      have := r_wh (fu := fu) (sm_ap.1 h).1 (by omega) (by omega)
      simp only [this]
      show some (4 + iN (t.length + 1)) = _
      simp only [i_4, iN_a]
      exact congrArg some (congrArg iN (by omega))
theorem sm_en {st : Nat → Int32} {e : Nat} {x : q_P} {r : List q_P} (h : sm st e (q_en (x :: r) ++ [0])) : sm st e (q_e1 x) ∧ sm st (e + (q_e1 x).length) (q_en r ++ [0]) := by
  rw [q_enc, List.append_assoc] at h
  exact sm_ap.1 h
theorem sb_en {st : Nat → UInt8} {e : Nat} {x : q_P} {r : List q_P} (h : sb st e (q_en (x :: r))) : sb st e (q_e1 x) ∧ sb st (e + (q_e1 x).length) (q_en r) := by
  rw [q_enc] at h
  exact sb_ap.1 h
/-- the byte at the elements' place is 0 just when there are none -/
theorem r_hd {st : Nat → Int32} {d e : Nat} {ps : List q_P} (h : sm st e (q_en ps ++ [0])) (ho : q_op d ps) : (st e = iN 0) = (ps = []) := by
  cases ps with
  | nil => exact eq_true (show st e = iN 0 from h.1) ▸ by simp
  | cons x r =>
    have h1 := (sm_e1 (sm_en h).1).1
    rw [h1, q_y0]
    have := q_okn (ho x List.mem_cons_self).2
    refine propext ⟨fun e => ?_, fun e => by cases e⟩
    rw [e] at this
    exact absurd rfl this.2
theorem r_fo {fu : Nat} {st : Nat → Int32} {d p : Nat} {ps : List q_P} (h : sm st p (q_bx ps)) (ho : q_op d ps) (hp : p + 5 ≤ 136400) : tw_MO_firstOf fu st (iN p) = some (iN (q_pt (p + 4) ps)) := by
  have h2 : sm st (p + 4) (q_en ps ++ [0]) := (sm_ap.1 h).2
  unfold tw_MO_firstOf
  simp (disch := omega) only [i_0, i_4, i_136400, iN_a, iN_c, iN_le, iN_lt, iN_eq, iN_i, r_hd h2 ho]
  rw [if_pos ⟨by omega, by omega⟩]
  cases ps with
  | nil => rfl
  | cons x r => rfl
theorem r_no {fu : Nat} {st : Nat → Int32} {d e : Nat} {x : q_P} {r : List q_P} (h : sm st e (q_en (x :: r) ++ [0])) (ho : q_op d (x :: r)) (hp : e + (q_en (x :: r)).length < 136400) (hf : x.2.1.length < fu) :
    tw_MO_nextOf fu st (iN e) = some (iN (q_pt (e + (q_e1 x).length) r)) := by
  obtain ⟨h1, h2⟩ := sm_en h
  obtain ⟨ha, hb⟩ := ho x List.mem_cons_self
  rw [q_enl] at hp
  have hl := q_e1l x
  unfold tw_MO_nextOf
  rw [r_vo h1 ha (by omega) hf]
  show (if 0 ≤ iN e ∧ iN e < 136400 then _ else none) = _
  simp (disch := omega) only [i_0, i_136400, iN_a, iN_c, iN_le, iN_lt, iN_eq, iN_i]
  rw [if_pos ⟨by omega, by omega⟩, (sm_e1 h1).1, r_lo hb (sm_e1 h1).2.2.2 (by omega)]
  show (if _ then _ else none) = _
  simp (disch := omega) only [i_0, i_136400, iN_a, iN_c, iN_le, iN_lt, iN_eq, iN_i]
  rw [if_pos ⟨by omega, by omega⟩, show e + x.2.1.length + 2 + x.2.2.length = e + (q_e1 x).length by omega]
  simp only [r_hd h2 (fun y hy => ho y (List.mem_cons_of_mem _ hy))]
  cases r with
  | nil => rfl
  | cons y r => rfl
theorem r_co_h {fu : Nat} {K : Int32 → Int32 → Option Int32} {st : Nat → Int32} {d : Nat} : ∀ (ps : List q_P) (e n c : Nat), sm st e (q_en ps ++ [0]) → q_op d ps → 0 < e → e + (q_en ps).length < 136400 → ps.length < n → 2500 ≤ fu → (q_en ps).length ≤ 2000 →
    tw_MO_countOf_h8 fu K st n (iN c) (iN (q_pt e ps)) = K (iN (c + ps.length)) (iN 0) := by
  intro ps
  induction ps with
  | nil =>
    intro e n c _ _ _ _ hn _ _
    obtain ⟨n, rfl⟩ : ∃ m, n = m + 1 := ⟨n - 1, by omega⟩
    rfl
  | cons x r ih =>
    intro e n c h ho he hp hn hf hl
    obtain ⟨n, rfl⟩ : ∃ m, n = m + 1 := ⟨n - 1, by omega⟩
    unfold tw_MO_countOf_h8
    have hl2 := hl
    rw [q_enl] at hl2
    rw [q_ptc, r_no h ho hp (by omega)]
    have h2 := (sm_en h).2
    have e1 := q_e1l x
    rw [q_enl] at hp hl
    rw [List.length_cons] at hn
    simp (disch := omega) only [i_0, i_1, iN_a, iN_c, iN_le, iN_lt, iN_eq, iN_i, ob1]
    rw [if_neg (by omega), ih _ n (c + 1) h2 (fun y hy => ho y (List.mem_cons_of_mem _ hy)) (by omega) (by omega) (by omega) hf (by omega), List.length_cons]
    rw [show c + 1 + r.length = c + (r.length + 1) by omega]
theorem r_co {fu : Nat} {st : Nat → Int32} {d p : Nat} {ps : List q_P} (h : sm st p (q_bx ps)) (ho : q_op d ps) (hp : p + (q_bx ps).length ≤ 136400) (hl : (q_bx ps).length ≤ 2005) (hf : 2500 ≤ fu) :
    tw_MO_countOf fu st (iN p) = some (iN ps.length) := by
  have hb := q_bxl ps
  have := q_psl ps
  unfold tw_MO_countOf
  rw [r_fo h ho (by omega)]
  show tw_MO_countOf_h8 _ _ _ _ 0 (iN _) = _
  simp only [i_0]
  rw [r_co_h ps (p + 4) fu 0 (sm_ap.1 h).2 ho (by omega) (by omega) (by omega) hf (by omega), Nat.zero_add]
/-- the class: how many elements -/
theorem q_cp_h {b : Nat → UInt8} {d : Nat} : ∀ (ps : List q_P) (e n c i : Nat), sb b e (q_en ps) → q_op d ps → e + (q_en ps).length < 202000 → ps.length < n → i + ps.length ≤ 1000 →
    tw_ST_countParts_h21 b (iN (e + (q_en ps).length)) n (iN e) (iN c) (iN i) = iN (c + ps.length) := by
  intro ps
  induction ps with
  | nil =>
    intro e n c i _ _ hp hn hi
    obtain ⟨n, rfl⟩ : ∃ m, n = m + 1 := ⟨n - 1, by omega⟩
    unfold tw_ST_countParts_h21
    simp only [q_en, List.length_nil, Nat.add_zero] at *
    simp (disch := omega) only [i_1000, iN_a, iN_c, iN_le, iN_lt, iN_eq, iN_i]
    simp
  | cons x r ih =>
    intro e n c i h ho hp hn hi
    obtain ⟨n, rfl⟩ : ∃ m, n = m + 1 := ⟨n - 1, by omega⟩
    obtain ⟨h1, h2⟩ := sb_en h
    obtain ⟨ha, hb⟩ := ho x List.mem_cons_self
    have e1 := q_e1l x
    have e2 := q_enl x r
    rw [List.length_cons] at *
    unfold tw_ST_countParts_h21
    rw [q_vo h1 (q_okn hb).1 ha (by omega), q_eo hb (sb_e1 h1).2.2.2 (by omega)]
    simp (disch := omega) only [i_1, i_1000, iN_a, iN_c, iN_le, iN_lt, iN_eq, iN_i]
    rw [if_neg (by omega), if_neg (by omega), show e + x.2.1.length + 2 + x.2.2.length = e + (q_e1 x).length by omega, show e + (q_en (x :: r)).length = e + (q_e1 x).length + (q_en r).length by omega,
      ih _ n (c + 1) (i + 1) h2 (fun y hy => ho y (List.mem_cons_of_mem _ hy)) (by omega) (by omega) (by omega)]
    exact congrArg iN (by omega)
theorem q_cp {b : Nat → UInt8} {d p : Nat} {k : UInt8} {ps : List q_P} (hk : k = 3 ∨ k = 4) (h : sb b p (q_bx ps)) (ho : q_op d ps) (hp : p + (q_bx ps).length ≤ 202000) (hl : (q_bx ps).length ≤ 2005) :
    tw_ST_countParts b (iN (32 * p + k.toNat)) = iN ps.length := by
  have hb := q_bxl ps
  have := q_psl ps
  have hk2 : k.toNat < 32 := by rcases hk with rfl | rfl <;> decide
  unfold tw_ST_countParts
  rw [q_eo4 (sb_bx h).1 (by omega) (by omega) hk]
  unfold tw_ST_placeOf
  simp (disch := omega) only [i_0, i_1, i_4, i_5, i_31, i_1000, q_p, iN_a, iN_c, iN_le, iN_lt, iN_eq, iN_i, iN_s]
  rw [show p + ((q_en ps).length + 5) - 1 = p + 4 + (q_en ps).length by omega, q_cp_h ps (p + 4) _ 0 0 (sb_bx h).2.1 ho (by omega) (by omega) (by omega), Nat.zero_add]
