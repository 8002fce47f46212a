/-! the pure part: an element by its name -/
def q_fn (x : List UInt8) : List q_P → Option (Nat × q_P)
  | [] => none
  | y :: r => if y.2.1 = x then some (0, y) else (match q_fn x r with | none => none | some z => some (z.1 + (q_e1 y).length, z.2))
theorem q_fnc (x : List UInt8) (y : q_P) (r : List q_P) : q_fn x (y :: r) = if y.2.1 = x then some (0, y) else (match q_fn x r with | none => none | some z => some (z.1 + (q_e1 y).length, z.2)) := rfl
theorem q_fnm {x : List UInt8} : ∀ {ps : List q_P} {o : Nat} {y : q_P}, q_fn x ps = some (o, y) → y ∈ ps ∧ y.2.1 = x ∧ ∃ a c, ps = a ++ y :: c ∧ o = (q_en a).length := by
  intro ps
  induction ps with
  | nil =>
    intro o y h
    cases h
  | cons z r ih =>
    intro o y h
    unfold q_fn at h
    split at h
    · next e =>
      injection h with h
      injection h with h1 h2
      subst h1 h2
      exact ⟨List.mem_cons_self, e, [], r, rfl, rfl⟩
    · split at h
      · cases h
      · next w hw =>
        injection h with h
        injection h with h1 h2
        obtain ⟨i1, i2, a, c, i3, i4⟩ := ih (o := w.1) (y := w.2) hw
        rw [h2] at i1 i2 i3
        refine ⟨List.mem_cons_of_mem _ i1, i2, z :: a, c, by rw [i3]; rfl, ?_⟩
        rw [q_enc, List.length_append]
        omega
/-- the value of an element that was found, as the class tells it -/
def q_fv (p : Nat) : Option (Nat × q_P) → Int32
  | none => 0
  | some z => iN (32 * (p + z.1 + z.2.2.1.length + 2) + z.2.1.toNat)
theorem q_fi_h {b : Nat → UInt8} {d a : Nat} {x : List UInt8} (hx : sb b a x) (ha : a + x.length ≤ 202000) : ∀ (ps : List q_P) (e n i : Nat), sb b e (q_en ps) → q_op d ps → e + (q_en ps).length < 202000 → ps.length < n → i + ps.length ≤ 1000 →
    tw_ST_find_h20 b (iN a) (iN (a + x.length)) (iN (e + (q_en ps).length)) n (iN e) (iN i) = q_fv e (q_fn x ps) := by
  intro ps
  induction ps with
  | nil =>
    intro e n i _ _ hp hn hi
    obtain ⟨n, rfl⟩ : ∃ m, n = m + 1 := ⟨n - 1, by omega⟩
    unfold tw_ST_find_h20
    simp only [q_en, List.length_nil, Nat.add_zero] at *
    simp (disch := omega) only [i_1000, iN_a, iN_c, iN_le, iN_lt, iN_eq, iN_i]
    simp [q_fn, q_fv]
  | cons y r ih =>
    intro e n i h ho hp hn hi
    obtain ⟨n, rfl⟩ : ∃ m, n = m + 1 := ⟨n - 1, by omega⟩
    obtain ⟨h1, h2⟩ := sb_en h
    obtain ⟨hm, hb⟩ := ho y List.mem_cons_self
    have e1 := q_e1l y
    have e2 := q_enl y r
    have kx := (q_okn hb).1
    have s1 := sb_e1 h1
    rw [List.length_cons] at *
    unfold tw_ST_find_h20 tw_ST_placeOf
    rw [q_vo h1 kx hm (by omega), q_eo hb s1.2.2.2 (by omega)]
    simp (disch := omega) only [i_0, i_1, i_5, i_31, i_1000, q_p, iN_a, iN_c, iN_le, iN_lt, iN_eq, iN_i, iN_s]
    rw [if_neg (by omega), if_neg (by omega), show e + y.2.1.length + 2 - 1 - e - 1 = y.2.1.length by omega, show a + x.length - a = x.length by omega, show e + y.2.1.length + 2 - 1 = e + 1 + y.2.1.length by omega, q_cb s1.2.1 hx (by omega) ha,
      show e + y.2.1.length + 2 + y.2.2.length = e + (q_e1 y).length by omega, show e + (q_en (y :: r)).length = e + (q_e1 y).length + (q_en r).length by omega,
      ih (e + (q_e1 y).length) n (i + 1) h2 (fun z hz => ho z (List.mem_cons_of_mem _ hz)) (by omega) (by omega) (by omega)]
    have tl : q_fv (e + (q_e1 y).length) (q_fn x r) = q_fv e (match q_fn x r with | none => none | some z => some (z.1 + (q_e1 y).length, z.2)) := by
      cases q_fn x r with
      | none => rfl
      | some z =>
        show iN _ = iN _
        exact congrArg iN (by show 32 * (e + (q_e1 y).length + z.1 + z.2.2.1.length + 2) + z.2.1.toNat = 32 * (e + (z.1 + (q_e1 y).length) + z.2.2.1.length + 2) + z.2.1.toNat; omega)
    rw [q_fnc]
    by_cases u : y.2.1 = x
    · rw [if_pos u, if_pos (by rw [u]), if_pos (show q_ob y.2.1 x = iN 0 from q_ob0.2 u)]
      show _ = iN _
      exact congrArg iN (by show 32 * (e + y.2.1.length + 2) + y.1.toNat = 32 * (e + 0 + y.2.1.length + 2) + y.1.toNat; omega)
    · rw [if_neg u, tl]
      by_cases v : y.2.1.length = x.length
      · rw [if_pos v, if_neg (show ¬ q_ob y.2.1 x = iN 0 from fun z => u (q_ob0.1 z))]
      · rw [if_neg v]
theorem q_fi {b : Nat → UInt8} {d p a : Nat} {k : UInt8} {ps : List q_P} {x : List UInt8} (hk : k = 3 ∨ k = 4) (h : sb b p (q_bx ps)) (ho : q_op d ps) (hp : p + (q_bx ps).length ≤ 202000) (hl : (q_bx ps).length ≤ 2005) (hx : sb b a x) (ha : a + x.length ≤ 202000) :
    tw_ST_find b (iN (32 * p + k.toNat)) (iN a) (iN (a + x.length)) = q_fv (p + 4) (q_fn x ps) := by
  have hb := q_bxl ps
  have := q_psl ps
  have hk2 : k.toNat < 32 := by rcases hk with rfl | rfl <;> decide
  unfold tw_ST_find
  rw [q_eo4 (sb_bx h).1 (by omega) (by omega) hk]
  unfold tw_ST_placeOf
  simp (disch := omega) only [i_0, i_1, i_4, i_5, i_31, i_1000, q_p, iN_a, iN_c, iN_le, iN_lt, iN_eq, iN_i, iN_s]
  rw [show p + ((q_en ps).length + 5) - 1 = p + 4 + (q_en ps).length by omega]
  exact q_fi_h hx ha ps (p + 4) _ 0 (sb_bx h).2.1 ho (by omega) (by omega) (by omega)
/-- item number i of a row -/
def q_it : Nat → List q_P → Option (Nat × q_P)
  | _, [] => none
  | 0, y :: _ => some (0, y)
  | i + 1, y :: r => (match q_it i r with | none => none | some z => some (z.1 + (q_e1 y).length, z.2))
theorem q_im_h {b : Nat → UInt8} {d j : Nat} (hj : j < 100000) : ∀ (ps : List q_P) (e n i : Nat), sb b e (q_en ps) → q_op d ps → e + (q_en ps).length < 202000 → ps.length < n → i + ps.length ≤ 1000 →
    tw_ST_item_h19 b (iN j) (iN (e + (q_en ps).length)) n (iN e) (iN i) = if j < i then 0 else q_fv e (q_it (j - i) ps) := by
  intro ps
  induction ps with
  | nil =>
    intro e n i _ _ hp hn hi
    obtain ⟨n, rfl⟩ : ∃ m, n = m + 1 := ⟨n - 1, by omega⟩
    unfold tw_ST_item_h19
    simp only [q_en, List.length_nil, Nat.add_zero] at *
    simp (disch := omega) only [i_1000, iN_a, iN_c, iN_le, iN_lt, iN_eq, iN_i]
    have : q_it (j - i) [] = none := by cases (j - i) <;> rfl
    simp [this, q_fv]
  | cons y r ih =>
    intro e n i h ho hp hn hi
    obtain ⟨n, rfl⟩ : ∃ m, n = m + 1 := ⟨n - 1, by omega⟩
    obtain ⟨h1, h2⟩ := sb_en h
    obtain ⟨hm, hb⟩ := ho y List.mem_cons_self
    have e1 := q_e1l y
    have e2 := q_enl y r
    have kx := (q_okn hb).1
    have s1 := sb_e1 h1
    rw [List.length_cons] at *
    unfold tw_ST_item_h19
    rw [q_vo h1 kx hm (by omega), q_eo hb s1.2.2.2 (by omega)]
    simp (disch := omega) only [i_1, i_1000, iN_a, iN_c, iN_le, iN_lt, iN_eq, iN_i]
    rw [if_neg (by omega), if_neg (by omega), show e + y.2.1.length + 2 + y.2.2.length = e + (q_e1 y).length by omega, show e + (q_en (y :: r)).length = e + (q_e1 y).length + (q_en r).length by omega,
      ih (e + (q_e1 y).length) n (i + 1) h2 (fun z hz => ho z (List.mem_cons_of_mem _ hz)) (by omega) (by omega) (by omega)]
    by_cases u : i = j
    · subst u
      rw [if_pos rfl, if_neg (by omega), Nat.sub_self]
      show _ = iN _
      exact congrArg iN (by show 32 * (e + y.2.1.length + 2) + y.1.toNat = 32 * (e + 0 + y.2.1.length + 2) + y.1.toNat; omega)
    · rw [if_neg u]
      by_cases v : j < i
      · rw [if_pos v, if_pos (by omega)]
      · rw [if_neg v, if_neg (by omega), show j - i = (j - (i + 1)) + 1 by omega]
        show _ = q_fv e (match q_it (j - (i + 1)) r with | none => none | some z => some (z.1 + (q_e1 y).length, z.2))
        cases q_it (j - (i + 1)) r with
        | none => rfl
        | some z =>
          show iN _ = iN _
          exact congrArg iN (by show 32 * (e + (q_e1 y).length + z.1 + z.2.2.1.length + 2) + z.2.1.toNat = 32 * (e + (z.1 + (q_e1 y).length) + z.2.2.1.length + 2) + z.2.1.toNat; omega)
theorem q_im {b : Nat → UInt8} {d p j : Nat} {ps : List q_P} (hj : j < 100000) (h : sb b p (q_bx ps)) (ho : q_op d ps) (hp : p + (q_bx ps).length ≤ 202000) (hl : (q_bx ps).length ≤ 2005) :
    tw_ST_item b (iN (32 * p + 4)) (iN j) = q_fv (p + 4) (q_it j ps) := by
  have hb := q_bxl ps
  have := q_psl ps
  unfold tw_ST_item
  rw [show tw_ST_endOf b (iN (32 * p + 4)) = _ from q_eo4 (k := 4) (sb_bx h).1 (by omega) (by omega) (Or.inr rfl)]
  unfold tw_ST_placeOf
  simp (disch := omega) only [i_0, i_1, i_4, i_5, i_31, i_1000, q_p, iN_a, iN_c, iN_le, iN_lt, iN_eq, iN_i, iN_s]
  rw [show p + ((q_en ps).length + 5) - 1 = p + 4 + (q_en ps).length by omega, q_im_h hj ps (p + 4) _ 0 (sb_bx h).2.1 ho (by omega) (by omega) (by omega), if_neg (by omega)]
  rfl
/-- in a row the item of a number is the one of that name -/
theorem q_nfn {x : List UInt8} : ∀ (ps : List q_P) (i : Nat), q_nr i ps → i + ps.length ≤ 1000 → q_fn x ps = match q_ix x with | none => none | some j => if j < i then none else q_it (j - i) ps := by
  intro ps
  induction ps with
  | nil =>
    intro i _ _
    cases q_ix x with
    | none => rfl
    | some j =>
      show none = if j < i then none else q_it (j - i) []
      split
      · rfl
      · cases (j - i) <;> rfl
  | cons y r ih =>
    intro i h hi
    rw [List.length_cons] at hi
    rw [q_fnc, ih (i + 1) h.2 (by omega), h.1]
    by_cases u : q_dg i = x
    · rw [if_pos u, (q_ixd (by omega)).2 u.symm]
      show _ = if i < i then none else q_it (i - i) (y :: r)
      rw [if_neg (by omega), Nat.sub_self]
      rfl
    · rw [if_neg u]
      cases hx : q_ix x with
      | none => rfl
      | some j =>
        have ne : j ≠ i := fun z => u ((q_ixd (i := i) (by omega)).1 (z ▸ hx)).symm
        show (match (if j < i + 1 then none else q_it (j - (i + 1)) r) with | none => none | some z => some (z.1 + (q_e1 y).length, z.2)) = if j < i then none else q_it (j - i) (y :: r)
        by_cases v : j < i
        · rw [if_pos v, if_pos (by omega)]
        · rw [if_neg v, if_neg (by omega), show j - i = (j - (i + 1)) + 1 by omega]
          rfl
/-- the reference: a step against a name -/
theorem q_cme {l m : List UInt8} : (l.length ≤ q_cm l m ∧ m.length ≤ q_cm l m) ↔ l = m := by
  induction l generalizing m with
  | nil => cases m <;> simp [q_cm]
  | cons x l ih =>
    cases m with
    | nil => simp [q_cm]
    | cons y m =>
      unfold q_cm
      by_cases e : x = y
      · rw [if_pos e]
        simp only [List.length_cons, Nat.add_le_add_iff_right]
        rw [ih, e]
        simp
      · rw [if_neg e]
        simp [e]
theorem r_is_h {fu : Nat} {K : Int32 → Option Bool} {st : Nat → Int32} {s e : Nat} {c : UInt8} (hc : c = 0 ∨ c = 46) : ∀ (nm x : List UInt8) (k n : Nat), sm st (e + 1 + k) (nm ++ [0]) → sm st (s + k) (x ++ [c]) → (0 : UInt8) ∉ nm → (0 : UInt8) ∉ x → (46 : UInt8) ∉ x →
    e + 1 + k + nm.length < 136400 → s + k + x.length < 136400 → nm.length < n → tw_MO_isStep_h2 fu K st (iN s) (iN e) n (iN k) = K (iN (k + q_cm nm x)) := by
  intro nm
  induction nm with
  | nil =>
    intro x k n h1 h2 _ _ _ b1 b2 hn
    obtain ⟨n, rfl⟩ : ∃ m, n = m + 1 := ⟨n - 1, by omega⟩
    have h0 : st (e + 1 + k) = iN 0 := h1.1
    simp only [List.length_nil] at b1
    unfold tw_MO_isStep_h2
    simp (disch := omega) only [i_0, i_1, i_136400, iN_a, iN_c, iN_le, iN_lt, iN_eq, iN_i]
    rw [if_pos ⟨by omega, by omega⟩, if_pos h0]
    cases x <;> rfl
  | cons y nm ih =>
    intro x k n h1 h2 m1 m2 m3 b1 b2 hn
    obtain ⟨n, rfl⟩ : ∃ m, n = m + 1 := ⟨n - 1, by omega⟩
    rw [List.length_cons] at *
    have hy : y ≠ 0 := fun z => m1 (z ▸ List.mem_cons_self)
    have g1 : st (e + 1 + k) = iN y.toNat := h1.1
    have uy := q_u8 y
    unfold tw_MO_isStep_h2
    simp (disch := omega) only [i_0, i_1, i_46, i_136400, iN_a, iN_c, iN_le, iN_lt, iN_eq, iN_i, g1]
    rw [if_pos ⟨by omega, by omega⟩, if_neg (fun q => hy (q_u8e q))]
    cases x with
    | nil =>
      have g2 : st (s + k) = iN c.toNat := h2.1
      have uc := q_u8 c
      rw [if_pos ⟨by omega, by simp at b2; omega⟩, g2]
      simp (disch := omega) only [iN_a, iN_c, iN_le, iN_lt, iN_eq, iN_i]
      by_cases v : y.toNat = c.toNat
      · rw [if_pos v]
        have : y = c := UInt8.toNat_inj.1 v
        have : c = 46 := by
          rcases hc with h | h
          · exact absurd (this.trans h) hy
          · exact h
        rw [if_pos (by rw [this]; rfl)]
        rfl
      · rw [if_neg v]
        rfl
    | cons z x =>
      have g2 : st (s + k) = iN z.toNat := h2.1
      have uz := q_u8 z
      rw [List.length_cons] at b2
      rw [if_pos ⟨by omega, by omega⟩, g2]
      simp (disch := omega) only [iN_a, iN_c, iN_le, iN_lt, iN_eq, iN_i]
      unfold q_cm
      by_cases v : y.toNat = z.toNat
      · have e1 : y = z := UInt8.toNat_inj.1 v
        have e2 : ¬ z.toNat = 46 := by
          intro q
          apply m3
          rw [q_u8e q]
          exact List.mem_cons_self
        rw [if_pos v, if_neg e2, if_pos e1, ih x (k + 1) n (by rw [← Nat.add_assoc]; exact h1.2) (by rw [← Nat.add_assoc]; exact h2.2) (fun q => m1 (List.mem_cons_of_mem _ q)) (fun q => m2 (List.mem_cons_of_mem _ q)) (fun q => m3 (List.mem_cons_of_mem _ q)) (by omega) (by omega) (by omega)]
        exact congrArg (fun q => K (iN q)) (by omega)
      · rw [if_neg v, if_neg (fun q => v (by rw [q]))]
        rfl
theorem sm_gx {b : Nat → Int32} {l : List UInt8} {c : UInt8} {p j : Nat} (h : sm b p (l ++ [c])) (hj : j ≤ l.length) : (j = l.length ∧ b (p + j) = iN c.toNat) ∨ (j < l.length ∧ ∃ y ∈ l, b (p + j) = iN y.toNat) := by
  by_cases e : j = l.length
  · left
    subst e
    exact ⟨rfl, (sm_ap.1 h).2.1⟩
  · right
    have hj2 : j < l.length := by omega
    exact ⟨hj2, l[j], List.getElem_mem hj2, sm_g (sm_ap.1 h).1 hj2⟩
theorem r_is {fu : Nat} {st : Nat → Int32} {s e : Nat} {c : UInt8} {nm x : List UInt8} (hc : c = 0 ∨ c = 46) (h1 : sm st (e + 1) (nm ++ [0])) (h2 : sm st s (x ++ [c])) (m1 : (0 : UInt8) ∉ nm) (m2 : (0 : UInt8) ∉ x) (m3 : (46 : UInt8) ∉ x)
    (b1 : e + 1 + nm.length < 136400) (b2 : s + x.length < 136400) (hf : nm.length < fu) : tw_MO_isStep fu st (iN s) (iN e) = some (decide (nm = x)) := by
  obtain ⟨k1, k2⟩ := q_cml nm x
  unfold tw_MO_isStep
  rw [i_0, r_is_h hc nm x 0 fu h1 h2 m1 m2 m3 b1 b2 hf, Nat.zero_add]
  simp (disch := omega) only [i_0, i_1, i_46, i_136400, iN_a, iN_c, iN_le, iN_lt, iN_eq, iN_i]
  rw [if_pos ⟨by omega, by omega⟩]
  rcases sm_gx h1 k1 with ⟨j1, g1⟩ | ⟨j1, y, hy, g1⟩
  · rw [g1, if_pos (show iN (0 : UInt8).toNat = iN 0 from rfl), if_pos ⟨by omega, by omega⟩]
    rcases sm_gx h2 k2 with ⟨j2, g2⟩ | ⟨j2, z, hz, g2⟩
    · have e1 : nm = x := q_cme.1 ⟨by omega, by omega⟩
      rw [g2, decide_eq_true e1]
      rcases hc with rfl | rfl
      · rw [if_pos (show iN (0 : UInt8).toNat = iN 0 from rfl)]
      · rw [if_neg (by decide), if_pos (show iN (46 : UInt8).toNat = iN 46 from rfl)]
    · have e1 : ¬ nm = x := by
        intro q
        have := (q_cme.2 q).2
        omega
      rw [g2, decide_eq_false e1, qy_0, if_neg (fun (q : z = 0) => m2 (q ▸ hz)), qy_46, if_neg (fun (q : z = 46) => m3 (q ▸ hz))]
  · have e1 : ¬ nm = x := by
      intro q
      have := (q_cme.2 q).1
      omega
    rw [g1, qy_0, if_neg (fun (q : y = 0) => m1 (q ▸ hy)), decide_eq_false e1]
theorem r_ns_h {fu : Nat} {K : Int32 → Option Int32} {st : Nat → Int32} {c : UInt8} (hc : c = 0 ∨ c = 46) : ∀ (x : List UInt8) (s n : Nat), sm st s (x ++ [c]) → (0 : UInt8) ∉ x → (46 : UInt8) ∉ x → s + x.length < 136400 → x.length < n →
    tw_MO_nextStep_h2 fu K st n (iN s) = K (iN (s + x.length)) := by
  intro x
  induction x with
  | nil =>
    intro s n h _ _ hs hn
    obtain ⟨n, rfl⟩ : ∃ m, n = m + 1 := ⟨n - 1, by omega⟩
    have h0 : st s = iN c.toNat := h.1
    simp only [List.length_nil, Nat.add_zero] at *
    unfold tw_MO_nextStep_h2
    simp (disch := omega) only [i_0, i_46, i_136400, iN_a, iN_c, iN_le, iN_lt, iN_eq, iN_i, h0]
    rw [if_pos ⟨by omega, by omega⟩]
    rcases hc with rfl | rfl
    · rw [if_pos (show iN (0 : UInt8).toNat = iN 0 from rfl)]
    · rw [if_neg (by decide), if_pos (show iN (46 : UInt8).toNat = iN 46 from rfl)]
  | cons y x ih =>
    intro s n h m2 m3 hs hn
    obtain ⟨n, rfl⟩ : ∃ m, n = m + 1 := ⟨n - 1, by omega⟩
    have h0 : st s = iN y.toNat := h.1
    rw [List.length_cons] at *
    unfold tw_MO_nextStep_h2
    simp (disch := omega) only [i_0, i_1, i_46, i_136400, iN_a, iN_c, iN_le, iN_lt, iN_eq, iN_i, h0, q_y0]
    rw [if_pos ⟨by omega, by omega⟩, if_neg (fun (q : y = 0) => m2 (q ▸ List.mem_cons_self)), qy_46, if_neg (fun (q : y = 46) => m3 (q ▸ List.mem_cons_self)),
      ih (s + 1) n h.2 (fun q => m2 (List.mem_cons_of_mem _ q)) (fun q => m3 (List.mem_cons_of_mem _ q)) (by omega) (by omega)]
    exact congrArg (fun q => K (iN q)) (by omega)
theorem r_ns {fu : Nat} {st : Nat → Int32} {c : UInt8} {x : List UInt8} {s : Nat} (hc : c = 0 ∨ c = 46) (h : sm st s (x ++ [c])) (m2 : (0 : UInt8) ∉ x) (m3 : (46 : UInt8) ∉ x) (hs : s + x.length < 136400) (hf : x.length < fu) :
    tw_MO_nextStep fu st (iN s) = some (if c = 0 then iN 0 else iN (s + x.length + 1)) := by
  have g : st (s + x.length) = iN c.toNat := (sm_ap.1 h).2.1
  unfold tw_MO_nextStep
  rw [r_ns_h hc x s fu h m2 m3 hs hf]
  simp (disch := omega) only [i_0, i_1, i_136400, iN_a, iN_c, iN_le, iN_lt, iN_eq, iN_i, g, q_y0]
  rw [if_pos ⟨by omega, by omega⟩]
  split <;> rfl
theorem q_le0 : iN 0 ≤ 0 := by decide
theorem r_me_h {fu : Nat} {K : Int32 → Int32 → Option Int32} {st : Nat → Int32} {s d : Nat} {c : UInt8} {x : List UInt8} (hf : 2500 ≤ fu) (hK : ∀ a b, K a b = some a) (hc : c = 0 ∨ c = 46) (h2 : sm st s (x ++ [c])) (m2 : (0 : UInt8) ∉ x) (m3 : (46 : UInt8) ∉ x) (b2 : s + x.length < 136400) :
    ∀ (ps : List q_P) (e n : Nat), sm st e (q_en ps ++ [0]) → q_op d ps → 0 < e → e + (q_en ps).length < 136400 → (q_en ps).length ≤ 2000 → ps.length < n →
    tw_MO_met_h9 fu K st (iN s) n (iN 0) (iN (q_pt e ps)) = some (match q_fn x ps with | none => iN 0 | some z => iN (e + z.1)) := by
  intro ps
  induction ps with
  | nil =>
    intro e n _ _ _ _ _ hn
    obtain ⟨n, rfl⟩ : ∃ m, n = m + 1 := ⟨n - 1, by omega⟩
    unfold tw_MO_met_h9
    rw [if_pos (show iN (q_pt e []) ≤ 0 from q_le0), hK]
    rfl
  | cons y r ih =>
    intro e n h ho he hp hl hn
    obtain ⟨n, rfl⟩ : ∃ m, n = m + 1 := ⟨n - 1, by omega⟩
    obtain ⟨h1, h3⟩ := sm_en h
    obtain ⟨hm, hb⟩ := ho y List.mem_cons_self
    have e1 := q_e1l y
    have e2 := q_enl y r
    have s1 := sm_e1 h1
    rw [List.length_cons] at hn
    have sn : sm st (e + 1) (y.2.1 ++ [0]) := sm_ap.2 ⟨s1.2.1, s1.2.2.1, trivial⟩
    unfold tw_MO_met_h9
    rw [q_ptc, if_neg (by simp (disch := omega) only [i_0, iN_a, iN_c, iN_le, iN_lt, iN_eq, iN_i]; omega), if_pos (show iN 0 = 0 from rfl), r_is hc sn h2 hm m2 m3 (by omega) b2 (by omega), obs1, r_no h ho (by omega) (by omega), obs1, obs1, q_fnc]
    by_cases u : y.2.1 = x
    · rw [decide_eq_true u, if_neg (by decide), if_pos u]
      obtain ⟨n, rfl⟩ : ∃ m, n = m + 1 := ⟨n - 1, by omega⟩
      unfold tw_MO_met_h9
      rw [hK]
      split
      · rfl
      · rw [if_neg (by simp (disch := omega) only [i_0, iN_a, iN_c, iN_le, iN_lt, iN_eq, iN_i]; omega)]
        rfl
    · rw [decide_eq_false u, if_pos (show b2i false = 0 from rfl), if_neg u, i_0, ih (e + (q_e1 y).length) n h3 (fun z hz => ho z (List.mem_cons_of_mem _ hz)) (by omega) (by omega) (by omega) (by omega)]
      cases q_fn x r with
      | none => rfl
      | some z => exact congrArg (fun q => some (iN q)) (by show e + (q_e1 y).length + z.1 = e + (z.1 + (q_e1 y).length); omega)
theorem r_me {fu : Nat} {st : Nat → Int32} {s d p : Nat} {c : UInt8} {x : List UInt8} {ps : List q_P} (hf : 2500 ≤ fu) (hc : c = 0 ∨ c = 46) (h2 : sm st s (x ++ [c])) (m2 : (0 : UInt8) ∉ x) (m3 : (46 : UInt8) ∉ x) (b2 : s + x.length < 136400)
    (h : sm st p (q_bx ps)) (ho : q_op d ps) (hp : p + (q_bx ps).length ≤ 136400) (hl : (q_bx ps).length ≤ 2005) : tw_MO_met fu st (iN p) (iN s) = some (match q_fn x ps with | none => iN 0 | some z => iN (p + 4 + z.1)) := by
  have hb := q_bxl ps
  have pl := q_psl ps
  unfold tw_MO_met
  rw [r_fo h ho (by omega)]
  simp only [ob1]
  rw [i_0]
  exact r_me_h hf (fun _ _ => rfl) hc h2 m2 m3 b2 ps (p + 4) fu (sm_ap.1 h).2 ho (by omega) (by omega) (by omega) (by omega)
