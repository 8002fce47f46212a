/-! the pure part: the leaves of a path -/
abbrev q_L : Type := Nat × UInt8 × List UInt8
/-- the items of a row with their places -/
def q_lc : Nat → List q_P → List q_L
  | _, [] => []
  | o, x :: r => (o + x.2.1.length + 2, x.1, x.2.2) :: q_lc (o + (q_e1 x).length) r
def q_ms : q_L := (0, 0, [])
def q_lv : Nat → List (List UInt8) → q_L → List q_L
  | 0, _, _ => []
  | _ + 1, [], z => z :: (if z.2.1 = 4 then q_lc (z.1 + 4) (q_ps z.2.2) else [])
  | d + 1, x :: xs, z =>
    if z.2.1 = 3 then (match q_fn x (q_ps z.2.2) with | none => [q_ms] | some y => q_lv d xs (z.1 + 4 + y.1 + y.2.2.1.length + 2, y.2.1, y.2.2.2))
    else if z.2.1 = 4 then (match q_fn x (q_ps z.2.2) with | none => [] | some y => q_lv d xs (z.1 + 4 + y.1 + y.2.2.1.length + 2, y.2.1, y.2.2.2)) ++
      ((q_lc (z.1 + 4) (q_ps z.2.2)).filter (fun w => w.2.1 == 3)).flatMap (q_lv d (x :: xs))
    else [q_ms]
def q_wr (f : Nat → Int32) : Nat → List Int32 → Nat → Int32
  | _, [] => f
  | c, x :: l => q_wr (upd f c x) (c + 1) l
theorem q_wra (f : Nat → Int32) (l m : List Int32) (c : Nat) : q_wr f c (l ++ m) = q_wr (q_wr f c l) (c + l.length) m := by
  induction l generalizing f c with
  | nil => rfl
  | cons x l ih =>
    rw [List.cons_append]
    show q_wr (upd f c x) (c + 1) (l ++ m) = q_wr (q_wr (upd f c x) (c + 1) l) (c + (l.length + 1)) m
    rw [ih, show c + 1 + l.length = c + (l.length + 1) by omega]
theorem q_wrg (l : List Int32) : ∀ (f : Nat → Int32) (c j : Nat), q_wr f c l j = if c ≤ j ∧ j < c + l.length then l.getD (j - c) 0 else f j := by
  induction l with
  | nil =>
    intro f c j
    rw [if_neg (by simp)]
    rfl
  | cons x l ih =>
    intro f c j
    show q_wr (upd f c x) (c + 1) l j = _
    rw [ih, List.length_cons]
    by_cases e : j = c
    · subst e
      rw [if_neg (by omega), if_pos (by omega), Nat.sub_self]
      show (if j = j then x else f j) = _
      rw [if_pos rfl]
      rfl
    · by_cases e2 : c + 1 ≤ j ∧ j < c + 1 + l.length
      · rw [if_pos e2, if_pos (by omega), show j - c = (j - (c + 1)) + 1 by omega, List.getD_cons_succ]
      · rw [if_neg e2, if_neg (by omega)]
        show (if j = c then x else f j) = _
        rw [if_neg e]
theorem q_lcn {o : Nat} {ps : List q_P} {z : q_L} (h : z ∈ q_lc o ps) : ∃ a x c, ps = a ++ x :: c ∧ z = (o + (q_en a).length + x.2.1.length + 2, x.1, x.2.2) := by
  induction ps generalizing o with
  | nil => cases h
  | cons y r ih =>
    unfold q_lc at h
    rcases List.mem_cons.1 h with rfl | h
    · exact ⟨[], y, r, rfl, rfl⟩
    · obtain ⟨a, x, c, h1, h2⟩ := ih h
      refine ⟨y :: a, x, c, by rw [h1]; rfl, ?_⟩
      rw [h2, q_enc, List.length_append, show o + (q_e1 y).length + (q_en a).length = o + ((q_e1 y).length + (q_en a).length) by omega]
def q_lk (z : q_L) : Int32 := iN z.2.1.toNat
def q_la (p : Nat) (z : q_L) : Int32 := if z.2.1 = 0 then iN 0 else iN (p + z.1)
theorem r_lf {fu c : Nat} {lkd lat : Nat → Int32} {x y : Int32} (h : c < 60000) (h2 : c % 30000 < 29999) : tw_MO_leaf fu (iN c) lkd lat x y = some (iN (c + 1), upd lkd c x, upd lat c y) := by
  unfold tw_MO_leaf
  have e : iN c - iN c / iN 30000 * iN 30000 = iN (c % 30000) := by
    rw [show iN c / iN 30000 = iN (c / 30000) from (Int32.ofNat_div (by omega) (by omega)).symm, iN_m, iN_s (by omega)]
    exact congrArg iN (by omega)
  simp only [i_30000]
  rw [e]
  simp (disch := omega) only [i_0, i_1, i_29999, i_60000, iN_a, iN_c, iN_le, iN_lt, iN_eq, iN_i]
  rw [if_neg (by omega), if_pos ⟨by omega, by omega⟩]
/-- the reference: all items of a row -/
theorem r_li_h {fu : Nat} {fl : Int32 → (Nat → Int32) → (Nat → Int32) → Int32 → Int32 → Int32 → Option (Int32 × (Nat → Int32) × (Nat → Int32))} {st : Nat → Int32} {K : Int32 → Int32 → (Nat → Int32) → (Nat → Int32) → Option (Int32 × (Nat → Int32) × (Nat → Int32))} {p d : Nat} (hf : 2500 ≤ fu) :
    ∀ (ps : List q_P) (o n c : Nat) (lkd lat : Nat → Int32), sm st (p + o) (q_en ps ++ [0]) → q_op d ps → 0 < p + o → p + o + (q_en ps).length < 136400 → (q_en ps).length ≤ 2000 → ps.length < n → c + ps.length ≤ 60000 → c % 30000 + ps.length ≤ 29999 →
    tw_MO_leavesOf_h22 fu fl st K n (iN (q_pt (p + o) ps)) (iN c) lkd lat = K (iN 0) (iN (c + ps.length)) (q_wr lkd c ((q_lc o ps).map q_lk)) (q_wr lat c ((q_lc o ps).map (q_la p))) := by
  intro ps
  induction ps with
  | nil =>
    intro o n c lkd lat _ _ _ _ _ hn _ _
    obtain ⟨n, rfl⟩ : ∃ m, n = m + 1 := ⟨n - 1, by omega⟩
    rfl
  | cons y r ih =>
    intro o n c lkd lat h ho he hp hl hn hc hc2
    obtain ⟨n, rfl⟩ : ∃ m, n = m + 1 := ⟨n - 1, by omega⟩
    obtain ⟨h1, h3⟩ := sm_en h
    obtain ⟨hm, hb⟩ := ho y List.mem_cons_self
    have e1 := q_e1l y
    have e2 := q_enl y r
    have s1 := sm_e1 h1
    rw [List.length_cons] at hn hc hc2
    unfold tw_MO_leavesOf_h22
    rw [q_ptc, if_neg (by simp (disch := omega) only [i_0, iN_a, iN_c, iN_le, iN_lt, iN_eq, iN_i]; omega), if_pos (by simp (disch := omega) only [i_0, i_136400, iN_a, iN_c, iN_le, iN_lt, iN_eq, iN_i]; omega), r_vo h1 hm (by omega) (by omega), obs1,
      iN_c (by omega), s1.1, r_lf (by omega) (by omega), obs3, r_no h ho (by omega) (by omega), obs1]
    have IH := ih (o + (q_e1 y).length) n (c + 1) (upd lkd c (iN y.1.toNat)) (upd lat c (iN (p + o + y.2.1.length + 2))) (by rw [← Nat.add_assoc]; exact h3) (fun z hz => ho z (List.mem_cons_of_mem _ hz)) (by omega) (by omega) (by omega) (by omega) (by omega) (by omega)
    rw [← Nat.add_assoc] at IH
    rw [IH, List.length_cons, show c + 1 + r.length = c + (r.length + 1) by omega]
    have k0 : ¬ y.1 = 0 := by
      intro q
      have := (q_okn hb).2
      rw [q] at this
      exact this rfl
    show _ = K (iN 0) _ (q_wr (upd lkd c (iN y.1.toNat)) (c + 1) _) (q_wr (upd lat c (if y.1 = 0 then iN 0 else iN (p + (o + y.2.1.length + 2)))) (c + 1) _)
    rw [if_neg k0, show p + (o + y.2.1.length + 2) = p + o + y.2.1.length + 2 by omega]
def q_cap (c n : Nat) : Prop := c + n ≤ 60000 ∧ c % 30000 + n ≤ 29999
theorem q_caps {c n m : Nat} (h : q_cap c (n + m)) : q_cap c n ∧ q_cap (c + n) m := by
  unfold q_cap at *
  omega
/-- what the reference's arrays are when leaves have come behind the first c -/
def q_lr (p c : Nat) (lkd lat : Nat → Int32) (L : List q_L) : Option (Int32 × (Nat → Int32) × (Nat → Int32)) := some (iN (c + L.length), q_wr lkd c (L.map q_lk), q_wr lat c (L.map (q_la p)))
theorem q_lra {p c : Nat} {lkd lat : Nat → Int32} {L M : List q_L} : q_lr p (c + L.length) (q_wr lkd c (L.map q_lk)) (q_wr lat c (L.map (q_la p))) M = q_lr p c lkd lat (L ++ M) := by
  unfold q_lr
  rw [List.map_append, List.map_append, q_wra, q_wra, List.length_append, List.length_map, List.length_map, Nat.add_assoc]
theorem r_ld_h {fu : Nat} {fl : Int32 → (Nat → Int32) → (Nat → Int32) → Int32 → Int32 → Int32 → Option (Int32 × (Nat → Int32) × (Nat → Int32))} {st : Nat → Int32} {K : Int32 → Int32 → (Nat → Int32) → (Nat → Int32) → Option (Int32 × (Nat → Int32) × (Nat → Int32))} {p d s : Nat} {g : q_L → List q_L} (hf : 2500 ≤ fu)
    (hK : ∀ x a b c, K x a b c = some (a, b, c)) :
    ∀ (ps : List q_P) (o n c : Nat) (lkd lat : Nat → Int32), sm st (p + o) (q_en ps ++ [0]) → q_op d ps → 0 < p + o → p + o + (q_en ps).length < 136400 → (q_en ps).length ≤ 2000 → ps.length < n → q_cap c (((q_lc o ps).filter (fun w => w.2.1 == 3)).flatMap g).length →
    (∀ z ∈ q_lc o ps, z.2.1 = 3 → ∀ c lkd lat, q_cap c (g z).length → fl (iN c) lkd lat 3 (iN (p + z.1)) (iN s) = q_lr p c lkd lat (g z)) →
    tw_MO_leavesOf_h157 fu fl st K (iN s) n (iN (q_pt (p + o) ps)) (iN c) lkd lat = q_lr p c lkd lat (((q_lc o ps).filter (fun w => w.2.1 == 3)).flatMap g) := by
  intro ps
  induction ps with
  | nil =>
    intro o n c lkd lat _ _ _ _ _ hn _ _
    obtain ⟨n, rfl⟩ : ∃ m, n = m + 1 := ⟨n - 1, by omega⟩
    unfold tw_MO_leavesOf_h157
    rw [if_pos (show iN (q_pt (p + o) []) ≤ 0 from q_le0), hK]
    rfl
  | cons y r ih =>
    intro o n c lkd lat h ho he hp hl hn hc hg
    obtain ⟨n, rfl⟩ : ∃ m, n = m + 1 := ⟨n - 1, by omega⟩
    obtain ⟨h1, h3⟩ := sm_en h
    obtain ⟨hm, hb⟩ := ho y List.mem_cons_self
    have e1 := q_e1l y
    have e2 := q_enl y r
    have s1 := sm_e1 h1
    have uy := q_u8 y.1
    rw [List.length_cons] at hn
    have el : q_lc o (y :: r) = (o + y.2.1.length + 2, y.1, y.2.2) :: q_lc (o + (q_e1 y).length) r := rfl
    unfold tw_MO_leavesOf_h157
    rw [q_ptc, if_neg (by simp (disch := omega) only [i_0, iN_a, iN_c, iN_le, iN_lt, iN_eq, iN_i]; omega)]
    unfold tw_MO_leavesOf_r162
    rw [if_pos (by simp (disch := omega) only [i_0, i_136400, iN_a, iN_c, iN_le, iN_lt, iN_eq, iN_i]; omega), r_vo h1 hm (by omega) (by omega), iN_c (by omega), s1.1, i_3, qy_3, obs1, r_no h ho (by omega) (by omega)]
    simp only [obs1]
    have IH := fun c lkd lat hc => ih (o + (q_e1 y).length) n c lkd lat (by rw [← Nat.add_assoc]; exact h3) (fun z hz => ho z (List.mem_cons_of_mem _ hz)) (by omega) (by omega) (by omega) (by omega) hc (fun z hz => hg z (by rw [el]; exact List.mem_cons_of_mem _ hz))
    rw [← Nat.add_assoc] at IH
    rw [el] at hc ⊢
    rw [List.filter_cons] at hc ⊢
    by_cases k3 : y.1 = 3
    · have t : ((o + y.2.1.length + 2, y.1, y.2.2) : q_L).2.1 == 3 := by
        show (y.1 == 3) = true
        simp [k3]
      rw [if_pos t] at hc ⊢
      rw [List.flatMap_cons] at hc ⊢
      rw [List.length_append] at hc
      obtain ⟨c1, c2⟩ := q_caps hc
      rw [if_pos k3]
      have G := hg (o + y.2.1.length + 2, y.1, y.2.2) (by rw [el]; exact List.mem_cons_self) k3 c lkd lat c1
      rw [show (3 : Int32) = iN 3 from rfl] at G
      rw [show p + o + y.2.1.length + 2 = p + (o + y.2.1.length + 2) by omega, G]
      conv => lhs; unfold q_lr
      rw [obs3, IH _ _ _ c2]
      exact q_lra
    · have t : ¬ (((o + y.2.1.length + 2, y.1, y.2.2) : q_L).2.1 == 3) = true := by
        show ¬ (y.1 == 3) = true
        simp [k3]
      rw [if_neg t] at hc ⊢
      rw [if_neg k3]
      exact IH _ _ _ hc
def q_st (s : Nat) : List (List UInt8) → Nat
  | [] => 0
  | _ :: _ => s
theorem r_pj {st : Nat → Int32} {s : Nat} {x : List UInt8} {xs : List (List UInt8)} (h : sm st s (q_pj (x :: xs) ++ [0])) : ∃ c : UInt8, (c = 0 ∨ c = 46) ∧ sm st s (x ++ [c]) ∧ (if c = 0 then iN 0 else iN (s + x.length + 1)) = iN (q_st (s + x.length + 1) xs) ∧ (xs ≠ [] → sm st (s + x.length + 1) (q_pj xs ++ [0])) := by
  cases xs with
  | nil => exact ⟨0, Or.inl rfl, h, rfl, fun q => absurd rfl q⟩
  | cons y r =>
    refine ⟨46, Or.inr rfl, ?_, rfl, fun _ => ?_⟩
    · have h' : sm st s ((x ++ [46]) ++ (q_pj (y :: r) ++ [0])) := by
        have e : (x ++ [46]) ++ (q_pj (y :: r) ++ [0]) = q_pj (x :: y :: r) ++ [0] := by
          show _ = (x ++ 46 :: q_pj (y :: r)) ++ [0]
          simp
        rw [e]
        exact h
      exact (sm_ap.1 h').1
    · have h' : sm st s (x ++ 46 :: (q_pj (y :: r) ++ [0])) := by
        have e : x ++ 46 :: (q_pj (y :: r) ++ [0]) = q_pj (x :: y :: r) ++ [0] := by
          show _ = (x ++ 46 :: q_pj (y :: r)) ++ [0]
          simp
        rw [e]
        exact h
      exact (sm_ap.1 h').2.2
theorem q_pjl {x : List UInt8} {xs : List (List UInt8)} : x.length ≤ (q_pj (x :: xs)).length ∧ (xs ≠ [] → x.length + 1 + (q_pj xs).length = (q_pj (x :: xs)).length) := by
  cases xs with
  | nil => exact ⟨Nat.le_refl _, fun q => absurd rfl q⟩
  | cons y r =>
    have e : (q_pj (x :: y :: r)).length = x.length + ((q_pj (y :: r)).length + 1) := by
      show (x ++ 46 :: q_pj (y :: r)).length = _
      rw [List.length_append, List.length_cons]
    exact ⟨by omega, fun _ => by omega⟩
/-- an element inside a box -/
theorem sm_in {st : Nat → Int32} {p : Nat} {a c : List q_P} {x : q_P} (h : sm st p (q_bx (a ++ x :: c))) : sm st (p + 4 + (q_en a).length) (q_e1 x) := by
  have := (sm_bx h).2.1
  rw [q_ena] at this
  exact (sm_ap.1 (sm_ap.1 this).2).1
theorem sb_in {st : Nat → UInt8} {p : Nat} {a c : List q_P} {x : q_P} (h : sb st p (q_bx (a ++ x :: c))) : sb st (p + 4 + (q_en a).length) (q_e1 x) := by
  have := (sb_bx h).2.1
  rw [q_ena] at this
  exact (sb_ap.1 (sb_ap.1 this).2).1
theorem q_inl {a c : List q_P} {x : q_P} : (q_en a).length + (x.2.1.length + x.2.2.length + 2) ≤ (q_en (a ++ x :: c)).length := by
  rw [q_ena, List.length_append, q_enl]
  omega
def q_sq (st : Nat → Int32) (s : Nat) (xs : List (List UInt8)) : Prop := xs ≠ [] → sm st s (q_pj xs ++ [0]) ∧ 0 < s ∧ s + (q_pj xs).length < 136400 ∧ (q_pj xs).length < 2000
theorem r_pq {st : Nat → Int32} {s : Nat} {x : List UInt8} {xs : List (List UInt8)} (h : q_sq st s (x :: xs)) : ∃ c : UInt8, (c = 0 ∨ c = 46) ∧ sm st s (x ++ [c]) ∧ (if c = 0 then iN 0 else iN (s + x.length + 1)) = iN (q_st (s + x.length + 1) xs) ∧ q_sq st (s + x.length + 1) xs ∧ 0 < s ∧ s + x.length < 136400 ∧ x.length < 2000 := by
  obtain ⟨h1, h2, h3, h4⟩ := h (by simp)
  obtain ⟨c, c1, c2, c3, c4⟩ := r_pj h1
  obtain ⟨pl1, pl2⟩ := q_pjl (x := x) (xs := xs)
  refine ⟨c, c1, c2, c3, fun q => ?_, h2, by omega, by omega⟩
  have := pl2 q
  exact ⟨c4 q, by omega, by omega, by omega⟩
theorem q_lcl : ∀ (ps : List q_P) (o : Nat), (q_lc o ps).length = ps.length := by
  intro ps
  induction ps with
  | nil => exact fun _ => rfl
  | cons x r ih =>
    intro o
    unfold q_lc
    rw [List.length_cons, List.length_cons, ih]
/-- what the reference does at a box with a step to be taken -/
theorem r_lv {fu p : Nat} {st : Nat → Int32} (hf : 2500 ≤ fu) : ∀ (d n m o s c : Nat) (k : UInt8) (v : List UInt8) (xs : List (List UInt8)) (lkd lat : Nat → Int32), q_ok d k v → sm st (p + o) v → p + o + v.length < 136400 → v.length ≤ 2005 → (∀ x ∈ xs, q_gs x) →
    q_sq st s xs → d < n → d < m → q_cap c (q_lv m xs (o, k, v)).length →
    tw_MO_lvs fu st n (iN c) lkd lat (iN k.toNat) (iN (p + o)) (iN (q_st s xs)) = q_lr p c lkd lat (q_lv m xs (o, k, v)) := by
  intro d
  induction d with
  | zero =>
    intro n m o s c k v xs lkd lat ho h hp hv hx hs hn hm hc
    obtain ⟨n, rfl⟩ : ∃ m, n = m + 1 := ⟨n - 1, by omega⟩
    obtain ⟨m, rfl⟩ : ∃ j, m = j + 1 := ⟨m - 1, by omega⟩
    have k3 : k ≠ 3 := fun e => q_lfk ho (Or.inl e)
    have k4 : k ≠ 4 := fun e => q_lfk ho (Or.inr e)
    have uk := q_u8 k
    have kn := (q_okn ho).2
    have k0 : ¬ k = 0 := by
      intro q
      rw [q] at kn
      exact kn rfl
    unfold tw_MO_lvs tw_MO_leavesOf
    cases xs with
    | nil =>
      have e : q_lv (m + 1) [] (o, k, v) = [(o, k, v)] := by
        unfold q_lv
        rw [if_neg (show ¬ k = 4 from k4)]
      rw [e] at hc ⊢
      unfold q_cap at hc
      simp only [List.length_cons, List.length_nil] at hc
      rw [if_pos (show iN (q_st s []) = 0 from rfl), r_lf (by omega) (by omega), obs3]
      rw [i_4, qy_4, if_neg k4]
      unfold q_lr q_lk q_la
      simp only [List.map_cons, List.map_nil, List.length_cons, List.length_nil]
      rw [if_neg k0]
      rfl
    | cons x xs =>
      obtain ⟨_, _, _, _, _, s0, s1, _⟩ := r_pq hs
      have e : q_lv (m + 1) (x :: xs) (o, k, v) = [q_ms] := by
        unfold q_lv
        rw [if_neg (show ¬ k = 3 from k3), if_neg (show ¬ k = 4 from k4)]
      rw [e] at hc ⊢
      unfold q_cap at hc
      simp only [List.length_cons, List.length_nil] at hc
      rw [show q_st s (x :: xs) = s from rfl, if_neg (show ¬ iN s = 0 by simp (disch := omega) only [i_0, iN_a, iN_c, iN_le, iN_lt, iN_eq, iN_i]; omega), i_3, qy_3, if_neg k3, i_4, qy_4, if_neg k4, r_lf (by omega) (by omega)]
      rfl
  | succ d ih =>
    intro n m o s c k v xs lkd lat ho h hp hv hx hs hn hm hc
    obtain ⟨n, rfl⟩ : ∃ m, n = m + 1 := ⟨n - 1, by omega⟩
    obtain ⟨m, rfl⟩ : ∃ j, m = j + 1 := ⟨m - 1, by omega⟩
    have uk := q_u8 k
    have kn := (q_okn ho).2
    have k0 : ¬ k = 0 := by
      intro q
      rw [q] at kn
      exact kn rfl
    unfold tw_MO_lvs tw_MO_leavesOf
    cases xs with
    | nil =>
      have e : q_lv (m + 1) [] (o, k, v) = (o, k, v) :: (if k = 4 then q_lc (o + 4) (q_ps v) else []) := by
        unfold q_lv
        rfl
      rw [e] at hc ⊢
      have c1 : q_cap c 1 := by
        unfold q_cap at *
        rw [List.length_cons] at hc
        omega
      unfold q_cap at c1
      rw [if_pos (show iN (q_st s []) = 0 from rfl), r_lf (by omega) (by omega), obs3]
      rw [i_4, qy_4]
      by_cases k4 : k = 4
      · rw [if_pos k4]
        obtain ⟨e1, ps, he, rfl, o1, _⟩ := q_okd ho (Or.inr k4)
        rw [q_psb o1 (by omega)] at hc ⊢
        rw [if_pos k4] at hc ⊢
        rw [q_bxl] at hp hv
        have pl := q_psl ps
        rw [r_fo h o1 (by omega), obs1]
        have ll : (q_lc (o + 4) ps).length = ps.length := q_lcl _ _
        rw [List.length_cons, ll] at hc
        unfold q_cap at hc
        have := r_li_h (fl := fun lvs lkd lat p0 p1 p2 => tw_MO_lvs fu st n lvs lkd lat p0 p1 p2) (K := fun (x4_37 : Int32) (lvs_37 : Int32) (lkd_37 : Nat → Int32) (lat_37 : Nat → Int32) => some (lvs_37, lkd_37, lat_37)) (p := p) (d := e1) hf ps (o + 4) fu (c + 1) (upd lkd c (iN k.toNat)) (upd lat c (iN (p + o)))
          (by rw [← Nat.add_assoc]; exact (sm_ap.1 h).2) o1 (by omega) (by omega) (by omega) (by omega) (by omega) (by omega)
        rw [← Nat.add_assoc] at this
        rw [this]
        unfold q_lr
        simp only [List.map_cons, List.length_cons, ll]
        show some _ = some (_, q_wr (upd lkd c (iN k.toNat)) (c + 1) _, q_wr (upd lat c (if k = 0 then iN 0 else iN (p + o))) (c + 1) _)
        rw [if_neg k0, show c + 1 + ps.length = c + (ps.length + 1) by omega]
      · rw [if_neg k4, if_neg k4]
        unfold q_lr q_lk q_la
        simp only [List.map_cons, List.map_nil, List.length_cons, List.length_nil]
        rw [if_neg k0]
        rfl
    | cons x xs =>
      have HS := hs
      obtain ⟨cc, hcc, hs3, hs4, hs5, s0, s1, s2⟩ := r_pq hs
      obtain ⟨gx1, gx2, gx3, gx4⟩ := hx x List.mem_cons_self
      have ns := r_ns (fu := fu) hcc hs3 gx2 gx3 s1 (by omega)
      rw [hs4] at ns
      have hx' : ∀ y ∈ xs, q_gs y := fun y hy => hx y (List.mem_cons_of_mem _ hy)
      rw [show q_st s (x :: xs) = s from rfl, if_neg (show ¬ iN s = 0 by simp (disch := omega) only [i_0, iN_a, iN_c, iN_le, iN_lt, iN_eq, iN_i]; omega), i_3, qy_3, i_4, qy_4]
      by_cases kb : k = 3 ∨ k = 4
      · obtain ⟨e1, ps, he, rfl, o1, nk⟩ := q_okd ho kb
        obtain rfl : e1 = d := by omega
        have psb := q_psb o1 (show (q_bx ps).length < 4294967296 by omega)
        rw [q_bxl] at hp hv
        have pl := q_psl ps
        have me := r_me (fu := fu) hf hcc hs3 gx2 gx3 s1 h o1 (by rw [q_bxl]; omega) (by rw [q_bxl]; omega)
        have step : ∀ (y : Nat × q_P) (c : Nat) (lkd lat : Nat → Int32), q_fn x ps = some y → q_cap c (q_lv m xs (o + 4 + y.1 + y.2.2.1.length + 2, y.2.1, y.2.2.2)).length →
            p + o + 4 + y.1 < 136400 ∧ tw_MO_valueOf fu st (iN (p + o + 4 + y.1)) = some (iN (p + (o + 4 + y.1 + y.2.2.1.length + 2))) ∧ st (p + o + 4 + y.1) = iN y.2.1.toNat ∧
            tw_MO_lvs fu st n (iN c) lkd lat (iN y.2.1.toNat) (iN (p + (o + 4 + y.1 + y.2.2.1.length + 2))) (iN (q_st (s + x.length + 1) xs)) = q_lr p c lkd lat (q_lv m xs (o + 4 + y.1 + y.2.2.1.length + 2, y.2.1, y.2.2.2)) := by
          intro y c lkd lat hy hcy
          obtain ⟨f1, f2, a, c2, f3, f4⟩ := q_fnm (o := y.1) (y := y.2) hy
          have il := q_inl (a := a) (c := c2) (x := y.2)
          rw [← f3, ← f4] at il
          have hin : sm st (p + o + 4 + y.1) (q_e1 y.2) := by
            have h' := h
            rw [f3] at h'
            have := sm_in h'
            rwa [← f4] at this
          have s1 := sm_e1 hin
          obtain ⟨o2, o3⟩ := o1 y.2 f1
          refine ⟨by omega, ?_, s1.1, ?_⟩
          · rw [r_vo hin o2 (by omega) (by omega)]
            exact congrArg (fun q => some (iN q)) (by omega)
          · refine ih n m (o + 4 + y.1 + y.2.2.1.length + 2) (s + x.length + 1) c y.2.1 y.2.2.2 xs lkd lat o3 ?_ (by omega) (by omega) hx' hs5 (by omega) (by omega) hcy
            have := s1.2.2.2
            rwa [show p + o + 4 + y.1 + y.2.2.1.length + 2 = p + (o + 4 + y.1 + y.2.2.1.length + 2) by omega] at this
        by_cases k3 : k = 3
        · have e : q_lv (m + 1) (x :: xs) (o, k, q_bx ps) = (match q_fn x ps with | none => [q_ms] | some y => q_lv m xs (o + 4 + y.1 + y.2.2.1.length + 2, y.2.1, y.2.2.2)) := by
            conv => lhs; unfold q_lv
            rw [if_pos (show k = 3 from k3), psb]
          rw [e] at hc ⊢
          rw [if_pos k3, me, obs1]
          cases hy : q_fn x ps with
          | none =>
            rw [hy] at hc
            unfold tw_MO_leavesOf_r71
            unfold q_cap at hc
            simp only [List.length_cons, List.length_nil] at hc
            rw [if_pos q_le0, r_lf (by omega) (by omega)]
            rfl
          | some y =>
            rw [hy] at hc
            obtain ⟨t1, t2, t3, t4⟩ := step y c lkd lat hy hc
            unfold tw_MO_leavesOf_r71
            simp only
            rw [if_neg (by simp (disch := omega) only [i_0, iN_a, iN_c, iN_le, iN_lt, iN_eq, iN_i]; omega), if_pos (by simp (disch := omega) only [i_0, i_136400, iN_a, iN_c, iN_le, iN_lt, iN_eq, iN_i]; omega), t2, obs1, ns, obs1, iN_c (by omega), t3, t4]
            rfl
        · have k4 : k = 4 := by
            rcases kb with q | q
            · exact absurd q k3
            · exact q
          have e : q_lv (m + 1) (x :: xs) (o, k, q_bx ps) = (match q_fn x ps with | none => [] | some y => q_lv m xs (o + 4 + y.1 + y.2.2.1.length + 2, y.2.1, y.2.2.2)) ++ ((q_lc (o + 4) ps).filter (fun w => w.2.1 == 3)).flatMap (q_lv m (x :: xs)) := by
            conv => lhs; unfold q_lv
            rw [if_neg (show ¬ k = 3 from k3), if_pos (show k = 4 from k4), psb]
          rw [e] at hc ⊢
          rw [if_neg k3, if_pos k4, me]
          rw [List.length_append] at hc
          obtain ⟨hc1, hc2⟩ := q_caps hc
          have tail : ∀ (c : Nat) (lkd lat : Nat → Int32), q_cap c (((q_lc (o + 4) ps).filter (fun w => w.2.1 == 3)).flatMap (q_lv m (x :: xs))).length →
              ob1 (tw_MO_firstOf fu st (iN (p + o))) (fun r_12 => tw_MO_leavesOf_h157 fu (fun lvs lkd lat p0 p1 p2 => tw_MO_lvs fu st n lvs lkd lat p0 p1 p2) st (fun (x5_20 : Int32) (lvs_20 : Int32) (lkd_20 : Nat → Int32) (lat_20 : Nat → Int32) => some (lvs_20, lkd_20, lat_20)) (iN s) fu r_12 (iN c) lkd lat) =
              q_lr p c lkd lat (((q_lc (o + 4) ps).filter (fun w => w.2.1 == 3)).flatMap (q_lv m (x :: xs))) := by
            intro c lkd lat hcc2
            rw [r_fo h o1 (by omega), obs1]
            have := r_ld_h (fl := fun lvs lkd lat p0 p1 p2 => tw_MO_lvs fu st n lvs lkd lat p0 p1 p2) (K := fun (x5_20 : Int32) (lvs_20 : Int32) (lkd_20 : Nat → Int32) (lat_20 : Nat → Int32) => some (lvs_20, lkd_20, lat_20)) (p := p) (d := e1) (s := s) (g := q_lv m (x :: xs)) hf (fun _ _ _ _ => rfl) ps (o + 4) fu c lkd lat
              (by rw [← Nat.add_assoc]; exact (sm_ap.1 h).2) o1 (by omega) (by omega) (by omega) (by omega) hcc2 ?_
            · rw [← Nat.add_assoc] at this
              exact this
            · intro z hz z3 c lkd lat hcz
              obtain ⟨a, y, c3, f3, f4⟩ := q_lcn hz
              subst f4
              have il := q_inl (a := a) (c := c3) (x := y)
              rw [← f3] at il
              have hin : sm st (p + o + 4 + (q_en a).length) (q_e1 y) := by
                have h' := h
                rw [f3] at h'
                exact sm_in h'
              have s1 := sm_e1 hin
              have ym : y ∈ ps := by
                rw [f3]
                simp
              obtain ⟨o2, o3⟩ := o1 y ym
              have z3' : y.1 = 3 := z3
              have := ih n m (o + 4 + (q_en a).length + y.2.1.length + 2) s c y.1 y.2.2 (x :: xs) lkd lat o3 ?_ (by omega) (by omega) hx HS (by omega) (by omega) hcz
              · rw [z3'] at this ⊢
                exact this
              · have := s1.2.2.2
                rwa [show p + o + 4 + (q_en a).length + y.2.1.length + 2 = p + (o + 4 + (q_en a).length + y.2.1.length + 2) by omega] at this
          rw [obs1]
          cases hy : q_fn x ps with
          | none =>
            rw [hy] at hc1 hc2
            unfold tw_MO_leavesOf_r123
            rw [if_pos q_le0]
            exact tail c lkd lat hc2
          | some y =>
            rw [hy] at hc1 hc2
            obtain ⟨t1, t2, t3, t4⟩ := step y c lkd lat hy hc1
            unfold tw_MO_leavesOf_r123
            simp only
            rw [if_neg (by simp (disch := omega) only [i_0, iN_a, iN_c, iN_le, iN_lt, iN_eq, iN_i]; omega), if_pos (by simp (disch := omega) only [i_0, i_136400, iN_a, iN_c, iN_le, iN_lt, iN_eq, iN_i]; omega), t2, obs1, ns, obs1, iN_c (by omega), t3, t4]
            conv => lhs; unfold q_lr
            rw [obs3]
            have := tail (c + (q_lv m xs (o + 4 + y.1 + y.2.2.1.length + 2, y.2.1, y.2.2.2)).length) (q_wr lkd c ((q_lv m xs (o + 4 + y.1 + y.2.2.1.length + 2, y.2.1, y.2.2.2)).map q_lk)) (q_wr lat c ((q_lv m xs (o + 4 + y.1 + y.2.2.1.length + 2, y.2.1, y.2.2.2)).map (q_la p))) hc2
            rw [this]
            exact q_lra
      · have k3 : ¬ k = 3 := fun q => kb (Or.inl q)
        have k4 : ¬ k = 4 := fun q => kb (Or.inr q)
        have e : q_lv (m + 1) (x :: xs) (o, k, v) = [q_ms] := by
          unfold q_lv
          rw [if_neg (show ¬ k = 3 from k3), if_neg (show ¬ k = 4 from k4)]
        rw [e] at hc ⊢
        unfold q_cap at hc
        simp only [List.length_cons, List.length_nil] at hc
        rw [if_neg k3, if_neg k4, r_lf (by omega) (by omega)]
        rfl
