/-! the pure part: ORDER of values -/
def q_vl (k : UInt8) (w : List UInt8) : Nat :=
  if k = 16 then 4 else if k = 18 then 8 else if k = 8 then 1 else if k = 2 then 4 + q_nv (w.take 4) else if k = 3 ∨ k = 4 then q_nv (w.take 4) else 0
def q_ds : Nat → List UInt8 → List q_P
  | 0, _ => []
  | _ + 1, [] => []
  | n + 1, k :: r =>
    (k, r.takeWhile (fun x => x != 0), (r.drop ((r.takeWhile (fun x => x != 0)).length + 1)).take (q_vl k (r.drop ((r.takeWhile (fun x => x != 0)).length + 1)))) ::
      q_ds n ((r.drop ((r.takeWhile (fun x => x != 0)).length + 1)).drop (q_vl k (r.drop ((r.takeWhile (fun x => x != 0)).length + 1))))
/-- a text's bytes, or those of a box's elements -/
def q_tt (v : List UInt8) : List UInt8 := (v.drop 4).dropLast
def q_ps (v : List UInt8) : List q_P := q_ds v.length (q_tt v)
theorem q_ttb (ps : List q_P) : q_tt (q_bx ps) = q_en ps := by
  unfold q_tt q_bx
  rw [List.drop_append_of_le_length (by rw [q_l4l]; omega), show (q_l4 ((q_en ps).length + 5)).drop 4 = [] from rfl, List.nil_append, List.dropLast_concat]
theorem q_ttt (t : List UInt8) : q_tt (q_tx t) = t := by
  unfold q_tt q_tx
  rw [List.drop_append_of_le_length (by rw [q_l4l]; omega), show (q_l4 (t.length + 1)).drop 4 = [] from rfl, List.nil_append, List.dropLast_concat]
theorem q_nl4 {n : Nat} {r : List UInt8} (h : n < 4294967296) : q_nv ((q_l4 n ++ r).take 4) = n := by
  rw [List.take_append_of_le_length (by rw [q_l4l]; omega)]
  show q_nv [_, _, _, _] = n
  rw [q_nv4, q_l4g h]
theorem q_vlo {d : Nat} {k : UInt8} {v r : List UInt8} (ho : q_ok d k v) (h : v.length < 4294967296) : q_vl k (v ++ r) = v.length := by
  unfold q_vl
  by_cases hk : k = 3 ∨ k = 4
  · obtain ⟨_, ps, _, rfl, _, _⟩ := q_okd ho hk
    rw [q_bxl] at *
    unfold q_bx
    rw [List.append_assoc, q_nl4 h]
    rcases hk with rfl | rfl <;> rfl
  · have := q_okl ho (fun e => hk (Or.inl e)) (fun e => hk (Or.inr e))
    unfold q_lf at this
    rcases this with ⟨rfl, hv⟩ | ⟨rfl, hv⟩ | ⟨rfl, hv⟩ | ⟨rfl, hv⟩ | ⟨rfl, t, rfl⟩
    · rw [hv]
      rfl
    · rw [hv]
      rfl
    · have hv : v.length = 1 := by rcases hv with rfl | rfl <;> rfl
      rw [hv]
      rfl
    · rw [hv]
      rfl
    · rw [q_txl] at *
      unfold q_tx
      rw [List.append_assoc, q_nl4 (by omega)]
      show 4 + (t.length + 1) = _
      omega
theorem q_tw {nm r : List UInt8} (h : (0 : UInt8) ∉ nm) : (nm ++ 0 :: r).takeWhile (fun x => x != 0) = nm := by
  induction nm with
  | nil => simp
  | cons y nm ih =>
    have hy : y ≠ 0 := fun e => h (e ▸ List.mem_cons_self)
    rw [List.cons_append, List.takeWhile_cons, ih (fun e => h (List.mem_cons_of_mem _ e))]
    simp [hy]
theorem q_dse {d : Nat} : ∀ (ps : List q_P) (n : Nat), q_op d ps → (q_en ps).length ≤ n → n < 4294967296 → q_ds n (q_en ps) = ps := by
  intro ps
  induction ps with
  | nil =>
    intro n _ _ _
    cases n <;> rfl
  | cons x r ih =>
    intro n ho hn hl
    have e2 := q_enl x r
    obtain ⟨n, rfl⟩ : ∃ m, n = m + 1 := ⟨n - 1, by omega⟩
    obtain ⟨ha, hb⟩ := ho x List.mem_cons_self
    have e : q_en (x :: r) = x.1 :: (x.2.1 ++ 0 :: (x.2.2 ++ q_en r)) := by
      rw [q_enc]
      unfold q_e1
      simp
    rw [e]
    unfold q_ds
    rw [q_tw ha]
    have e3 : (x.2.1 ++ 0 :: (x.2.2 ++ q_en r)).drop (x.2.1.length + 1) = x.2.2 ++ q_en r := by
      rw [List.drop_append]
      simp
    rw [e3, q_vlo hb (by omega), List.take_left', List.drop_left', ih n (fun y hy => ho y (List.mem_cons_of_mem _ hy)) (by omega) (by omega)]
    · rfl
    · rfl
theorem q_psb {d : Nat} {ps : List q_P} (ho : q_op d ps) (h : (q_bx ps).length < 4294967296) : q_ps (q_bx ps) = ps := by
  unfold q_ps
  rw [q_ttb]
  exact q_dse ps _ ho (by rw [q_bxl]; omega) h
def q_ol (f : UInt8 → List UInt8 → UInt8 → List UInt8 → Int32) (nm : Bool) : List q_P → List q_P → Int32
  | [], [] => 0
  | [], _ :: _ => -1
  | _ :: _, [] => 1
  | x :: a, y :: c =>
    if q_cl x.1 = q_cl y.1 then
      if nm = true ∧ q_ob x.2.1 y.2.1 ≠ 0 then q_ob x.2.1 y.2.1
      else if f x.1 x.2.2 y.1 y.2.2 = 0 then q_ol f nm a c else f x.1 x.2.2 y.1 y.2.2
    else if q_cl y.1 ≤ q_cl x.1 then 1 else -1
theorem q_olc (f : UInt8 → List UInt8 → UInt8 → List UInt8 → Int32) (nm : Bool) (x y : q_P) (a c : List q_P) : q_ol f nm (x :: a) (y :: c) =
    if q_cl x.1 = q_cl y.1 then (if nm = true ∧ q_ob x.2.1 y.2.1 ≠ 0 then q_ob x.2.1 y.2.1 else if f x.1 x.2.2 y.1 y.2.2 = 0 then q_ol f nm a c else f x.1 x.2.2 y.1 y.2.2)
    else if q_cl y.1 ≤ q_cl x.1 then 1 else -1 := rfl
def q_o1 (g : Bool → List q_P → List q_P → Int32) (k : UInt8) (v : List UInt8) (l : UInt8) (w : List UInt8) : Int32 :=
  if q_cl k = q_cl l then
    if q_cl k = 2 ∨ q_cl k = 6 then lg_cmp (q_nu k v) (q_nu l w)
    else if q_cl k = 3 then q_ob (q_tt v) (q_tt w)
    else if q_cl k = 4 then g true (q_ps v) (q_ps w)
    else if q_cl k = 5 then g false (q_ps v) (q_ps w)
    else 0
  else if q_cl l ≤ q_cl k then 1 else -1
def q_ov : Nat → UInt8 → List UInt8 → UInt8 → List UInt8 → Int32
  | 0, k, v, l, w => q_o1 (fun _ _ _ => 0) k v l w
  | d + 1, k, v, l, w => q_o1 (fun nm ps qs => q_ol (q_ov d) nm ps qs) k v l w
/-- a value, or MISSING -/
def q_oz (d : Nat) (k : UInt8) (v : List UInt8) : Prop := q_ok d k v ∨ (k = 0 ∧ v = [])
theorem q_ozn {d : Nat} {k : UInt8} {v : List UInt8} (h : q_oz d k v) : k.toNat < 32 := by
  rcases h with h | ⟨rfl, _⟩
  · exact (q_okn h).1
  · decide
theorem q_jl (x y : Int64) : tw_JL_compare x y = lg_cmp x y := by
  unfold tw_JL_compare lg_cmp
  repeat' split
  all_goals first | rfl | simp_all
theorem q_cl4 {k : UInt8} : q_cl k = 4 ↔ k = 3 := by
  constructor
  · intro h
    unfold q_cl at h
    repeat' split at h
    all_goals first | assumption | cases h
  · intro h
    rw [h]
    rfl
theorem q_cl5 {k : UInt8} : q_cl k = 5 ↔ k = 4 := by
  constructor
  · intro h
    unfold q_cl at h
    repeat' split at h
    all_goals first | assumption | cases h
  · intro h
    rw [h]
    rfl
theorem q_cl3 {k : UInt8} : q_cl k = 3 ↔ k = 2 := by
  constructor
  · intro h
    unfold q_cl at h
    repeat' split at h
    all_goals first | assumption | cases h
  · intro h
    rw [h]
    rfl
theorem q_cl6 {k : UInt8} : q_cl k = 6 ↔ k = 8 := by
  constructor
  · intro h
    unfold q_cl at h
    repeat' split at h
    all_goals first | assumption | cases h
  · intro h
    rw [h]
    rfl
theorem q_cl2 {k : UInt8} : q_cl k = 2 ↔ k = 16 ∨ k = 18 := by
  constructor
  · intro h
    unfold q_cl at h
    repeat' split at h
    all_goals first | (left; assumption) | (right; assumption) | cases h
  · intro h
    rcases h with rfl | rfl <;> rfl
/-- the class: elements one after the other -/
theorem q_cp2_h {fc : Int32 → Int32 → Int32} {b : Nat → UInt8} {p2 : Int32} {f : UInt8 → List UInt8 → UInt8 → List UInt8 → Int32} {nm : Bool} {d : Nat} : ∀ (ps qs : List q_P) (e e' n i : Nat),
    sb b e (q_en ps) → sb b e' (q_en qs) → q_op d ps → q_op d qs → e + (q_en ps).length < 202000 → e' + (q_en qs).length < 202000 → ps.length < n → i + ps.length ≤ 1000 →
    (∀ x ∈ ps, ∀ y ∈ qs, ∀ p q, sb b p x.2.2 → sb b q y.2.2 → p + x.2.2.length ≤ 202000 → q + y.2.2.length ≤ 202000 → fc (iN (32 * p + x.1.toNat)) (iN (32 * q + y.1.toNat)) = f x.1 x.2.2 y.1 y.2.2) →
    tw_ST_compareParts_h52 fc b p2 (b2i nm) (iN (e + (q_en ps).length)) (iN (e' + (q_en qs).length)) n (iN e) (iN e') (iN i) = q_ol f nm ps qs := by
  intro ps
  induction ps with
  | nil =>
    intro qs e e' n i h h' ho ho' hp hp' hn hi hf
    obtain ⟨n, rfl⟩ : ∃ m, n = m + 1 := ⟨n - 1, by omega⟩
    unfold tw_ST_compareParts_h52
    simp only [q_en, List.length_nil, Nat.add_zero] at *
    simp (disch := omega) only [i_1000, iN_a, iN_c, iN_le, iN_lt, iN_eq, iN_i]
    cases qs with
    | nil =>
      simp [q_en, q_ol]
      intros
      rfl
    | cons y c =>
      have := q_enl y c
      have e3 : ¬ e' + (q_en (y :: c)).length ≤ e' := by omega
      simp [e3, q_ol]
      intros
      rfl
  | cons x a ih =>
    intro qs e e' n i h h' ho ho' hp hp' hn hi hf
    obtain ⟨n, rfl⟩ : ∃ m, n = m + 1 := ⟨n - 1, by omega⟩
    rw [List.length_cons] at *
    have e1 := q_e1l x
    have e2 := q_enl x a
    cases qs with
    | nil =>
      unfold tw_ST_compareParts_h52
      have z : (q_en ([] : List q_P)).length = 0 := rfl
      rw [z, Nat.add_zero] at hp' ⊢
      simp (disch := omega) only [i_1000, iN_a, iN_c, iN_le, iN_lt, iN_eq, iN_i]
      have e3 : ¬ e + (q_en (x :: a)).length ≤ e := by omega
      have e4 : ¬ 1000 ≤ i := by omega
      simp only [e3, e4, if_false, Nat.le_refl, if_true]
      rfl
    | cons y c =>
      have e3 := q_e1l y
      have e4 := q_enl y c
      obtain ⟨h1, h2⟩ := sb_en h
      obtain ⟨h1', h2'⟩ := sb_en h'
      obtain ⟨ha, hb⟩ := ho x List.mem_cons_self
      obtain ⟨ha', hb'⟩ := ho' y List.mem_cons_self
      have kx := (q_okn hb).1
      have ky := (q_okn hb').1
      have s1 := sb_e1 h1
      have s2 := sb_e1 h1'
      unfold tw_ST_compareParts_h52 tw_ST_placeOf
      rw [q_vo h1 kx ha (by omega), q_vo h1' ky ha' (by omega), q_eo hb s1.2.2.2 (by omega), q_eo hb' s2.2.2.2 (by omega), q_co (by omega) kx, q_co (by omega) ky,
        hf x List.mem_cons_self y List.mem_cons_self _ _ s1.2.2.2 s2.2.2.2 (by omega) (by omega)]
      have c1 := q_cl7 x.1
      have c2 := q_cl7 y.1
      simp (disch := omega) only [i_0, i_1, i_5, i_31, i_1000, q_p, iN_a, iN_c, iN_le, iN_lt, iN_eq, iN_i, iN_s]
      have r1 : e + x.2.1.length + 2 - 1 = e + 1 + x.2.1.length := by omega
      have r2 : e' + y.2.1.length + 2 - 1 = e' + 1 + y.2.1.length := by omega
      rw [r1, r2, q_cb s1.2.1 s2.2.1 (by omega) (by omega), q_jc (x := q_cl x.1) (y := q_cl y.1) (by omega) (by omega)]
      have t1 : ¬ 1000 ≤ i := by omega
      have t2 : ¬ e + (q_en (x :: a)).length ≤ e := by omega
      have t3 : ¬ e' + (q_en (y :: c)).length ≤ e' := by omega
      have r3 : e + x.2.1.length + 2 + x.2.2.length = e + (q_e1 x).length := by omega
      have r4 : e' + y.2.1.length + 2 + y.2.2.length = e' + (q_e1 y).length := by omega
      have IH := ih c (e + (q_e1 x).length) (e' + (q_e1 y).length) n (i + 1) h2 h2' (fun z hz => ho z (List.mem_cons_of_mem _ hz)) (fun z hz => ho' z (List.mem_cons_of_mem _ hz)) (by omega) (by omega) (by omega) (by omega)
        (fun z hz w hw => hf z (List.mem_cons_of_mem _ hz) w (List.mem_cons_of_mem _ hw))
      rw [show e + (q_e1 x).length + (q_en a).length = e + (q_en (x :: a)).length by omega, show e' + (q_e1 y).length + (q_en c).length = e' + (q_en (y :: c)).length by omega] at IH
      rw [r3, r4, IH, q_olc]
      simp only [t1, t2, t3, if_false, ← i_0, ← i_1]
      by_cases u1 : q_cl x.1 = q_cl y.1
      · have v1 : q_cl y.1 ≤ q_cl x.1 := by omega
        have v2 : q_cl x.1 ≤ q_cl y.1 := by omega
        simp only [v1, v2, u1, if_true, Nat.le_refl]
        cases nm with
        | false =>
          simp [b2i]
        | true =>
          by_cases u2 : q_ob x.2.1 y.2.1 = 0
          · simp [b2i, u2]
          · simp [b2i, u2]
      · by_cases u3 : q_cl y.1 ≤ q_cl x.1
        · have v2 : ¬ q_cl x.1 ≤ q_cl y.1 := by omega
          simp [u1, u3, v2]
        · simp [u1, u3]
theorem q_cmp1 {fp : Int32 → Int32 → Int32} {b : Nat → UInt8} {g : Bool → List q_P → List q_P → Int32} {d p q D : Nat} {k l : UInt8} {v w : List UInt8} (ho : q_oz d k v) (ho' : q_oz d l w) (h : sb b p v) (h' : sb b q w)
    (hp : p + v.length ≤ 202000) (hq : q + w.length ≤ 202000) (hD : D ≤ 40)
    (hg : (k = 3 ∧ l = 3) ∨ (k = 4 ∧ l = 4) → fp (iN (32 * p + k.toNat)) (iN (32 * q + l.toNat)) = g (k = 3) (q_ps v) (q_ps w)) :
    tw_ST_compare fp b (iN (32 * p + k.toNat)) (iN (32 * q + l.toNat)) (iN D) = q_o1 g k v l w := by
  have kk := q_ozn ho
  have kl := q_ozn ho'
  have c1 := q_cl7 k
  have c2 := q_cl7 l
  unfold tw_ST_compare q_o1
  rw [q_co (by omega) kk, q_co (by omega) kl, q_jc (by omega) (by omega)]
  by_cases u1 : q_cl k = q_cl l
  · have jc : (if q_cl l ≤ q_cl k then (if q_cl k ≤ q_cl l then (0 : Int32) else 1) else -1) = 0 := by rw [if_pos (by omega), if_pos (by omega)]
    rw [if_pos u1, if_pos jc]
    unfold tw_ST_kindOf
    simp (disch := omega) only [i_2, i_3, i_4, i_8, i_16, i_18, i_31, i_40, q_k, iN_a, iN_c, iN_le, iN_lt, iN_eq, iN_i, qk_2, qk_3, qk_4, qk_8, qk_16, qk_18]
    rw [if_pos hD]
    by_cases k2 : k = 2
    · have hl : l = 2 := by
        rw [q_cl3.2 k2] at u1
        exact q_cl3.1 u1.symm
      subst k2 hl
      rcases ho with ho | ⟨e, _⟩
      rotate_left
      · cases e
      rcases ho' with ho' | ⟨e, _⟩
      rotate_left
      · cases e
      have l1 := q_okl ho (by decide) (by decide)
      have l2 := q_okl ho' (by decide) (by decide)
      unfold q_lf at l1 l2
      rcases l1 with ⟨e, _⟩ | ⟨e, _⟩ | ⟨e, _⟩ | ⟨e, _⟩ | ⟨_, t, rfl⟩
      any_goals cases e
      rcases l2 with ⟨e, _⟩ | ⟨e, _⟩ | ⟨e, _⟩ | ⟨e, _⟩ | ⟨_, t', rfl⟩
      any_goals cases e
      rw [q_txl] at hp hq
      have s1 := sb_ap.1 h
      have s2 := sb_ap.1 h'
      rw [if_pos rfl, q_ttt, q_ttt]
      show tw_ST_compareBytes b _ (tw_ST_endOf b (iN (32 * p + 2)) - 1) _ (tw_ST_endOf b (iN (32 * q + 2)) - 1) = _
      rw [q_eo2 s1.1 (by omega) (by omega), q_eo2 s2.1 (by omega) (by omega)]
      unfold tw_ST_placeOf
      show tw_ST_compareBytes b ((((iN (32 * p + 2)).toUInt32 >>> _).toInt32) + 4) _ ((((iN (32 * q + 2)).toUInt32 >>> _).toInt32) + 4) _ = _
      simp (disch := omega) only [i_1, i_4, i_5, i_31, q_p, iN_a, iN_c, iN_le, iN_lt, iN_eq, iN_i, iN_s]
      have := q_cb (sb_ap.1 s1.2).1 (sb_ap.1 s2.2).1 (by rw [q_l4l]; omega) (by rw [q_l4l]; omega)
      rw [q_l4l, q_l4l] at this
      rw [show p + 4 + (t.length + 1) - 1 = p + 4 + t.length by omega, show q + 4 + (t'.length + 1) - 1 = q + 4 + t'.length by omega, this]
      rfl
    · rw [if_neg k2]
      by_cases k3 : k = 3
      · have hl : l = 3 := by
          rw [q_cl4.2 k3] at u1
          exact q_cl4.1 u1.symm
        rw [if_pos k3, hg (Or.inl ⟨k3, hl⟩)]
        subst k3
        rfl
      · rw [if_neg k3]
        by_cases k4 : k = 4
        · have hl : l = 4 := by
            rw [q_cl5.2 k4] at u1
            exact q_cl5.1 u1.symm
          rw [if_pos k4, hg (Or.inr ⟨k4, hl⟩)]
          subst k4
          rfl
        · rw [if_neg k4]
          by_cases k8 : k = 8
          · have hl : l = 8 := by
              rw [q_cl6.2 k8] at u1
              exact q_cl6.1 u1.symm
            subst k8 hl
            rcases ho with ho | ⟨e, _⟩
            rotate_left
            · cases e
            rcases ho' with ho' | ⟨e, _⟩
            rotate_left
            · cases e
            have l1 := q_okl ho (by decide) (by decide)
            have l2 := q_okl ho' (by decide) (by decide)
            unfold q_lf at l1 l2
            rcases l1 with ⟨e, _⟩ | ⟨e, _⟩ | ⟨_, hv⟩ | ⟨e, _⟩ | ⟨e, _⟩
            any_goals cases e
            rcases l2 with ⟨e, _⟩ | ⟨e, _⟩ | ⟨_, hw⟩ | ⟨e, _⟩ | ⟨e, _⟩
            any_goals cases e
            rw [if_pos rfl]
            unfold tw_ST_placeOf
            show tw_JI_compare (tw_ST_at b (((iN (32 * p + 8)).toUInt32 >>> _).toInt32)) (tw_ST_at b (((iN (32 * q + 8)).toUInt32 >>> _).toInt32)) = _
            simp (disch := omega) only [i_5, i_31, q_p]
            rcases hv with rfl | rfl <;> rcases hw with rfl | rfl <;>
            · simp only [List.length_cons, List.length_nil] at hp hq
              rw [q_at (by omega), q_at (by omega), h.1, h'.1]
              rfl
          · rw [if_neg k8]
            by_cases kn : k = 16 ∨ k = 18
            · have hl : l = 16 ∨ l = 18 := by
                rw [q_cl2.2 kn] at u1
                exact q_cl2.1 u1.symm
              rw [if_pos (Or.inl (q_cl2.2 kn))]
              have n1 : tw_ST_number b (iN (32 * p + k.toNat)) = q_nu k v := by
                rcases ho with ho | ⟨e, _⟩
                rotate_left
                · rw [e] at kn
                  exact absurd kn (by decide)
                have l1 := q_okl ho k3 k4
                unfold q_lf at l1
                rcases l1 with ⟨rfl, hv⟩ | ⟨rfl, hv⟩ | ⟨rfl, _⟩ | ⟨rfl, _⟩ | ⟨rfl, _⟩
                · exact q_n16 hv h (by omega)
                · exact q_n18 hv h (by omega)
                · exact absurd rfl k8
                · exact absurd kn (by decide)
                · exact absurd rfl k2
              have n2 : tw_ST_number b (iN (32 * q + l.toNat)) = q_nu l w := by
                rcases ho' with ho' | ⟨e, _⟩
                rotate_left
                · rw [e] at hl
                  exact absurd hl (by decide)
                have l1 := q_okl ho' (by rcases hl with rfl | rfl <;> decide) (by rcases hl with rfl | rfl <;> decide)
                unfold q_lf at l1
                rcases l1 with ⟨rfl, hv⟩ | ⟨rfl, hv⟩ | ⟨rfl, _⟩ | ⟨rfl, _⟩ | ⟨rfl, _⟩
                · exact q_n16 hv h' (by omega)
                · exact q_n18 hv h' (by omega)
                · exact absurd hl (by decide)
                · exact absurd hl (by decide)
                · exact absurd hl (by decide)
              rw [n1, n2, q_jl]
              rcases kn with rfl | rfl <;> rfl
            · rw [if_neg (fun e => kn (Or.inl e)), if_neg (fun e => kn (Or.inr e))]
              have c3 : ¬ (q_cl k = 2 ∨ q_cl k = 6) := by
                rintro (e | e)
                · exact kn (q_cl2.1 e)
                · exact k8 (q_cl6.1 e)
              rw [if_neg c3, if_neg (fun e => k2 (q_cl3.1 e)), if_neg (fun e => k3 (q_cl4.1 e)), if_neg (fun e => k4 (q_cl5.1 e))]
  · rw [if_neg u1]
    by_cases u3 : q_cl l ≤ q_cl k
    · have v3 : ¬ q_cl k ≤ q_cl l := by omega
      simp only [u3, v3, if_true, if_false]
      rfl
    · simp only [u3, if_false]
      rfl
theorem q_cmp {b : Nat → UInt8} : ∀ (d n m D p q : Nat) (k l : UInt8) (v w : List UInt8), q_oz d k v → q_oz d l w → sb b p v → sb b q w → p + v.length ≤ 202000 → q + w.length ≤ 202000 → v.length ≤ 2005 → w.length ≤ 2005 →
    d ≤ n → d ≤ m → D + d ≤ 40 → tw_ST_cmp n b (iN (32 * p + k.toNat)) (iN (32 * q + l.toNat)) (iN D) = q_ov m k v l w := by
  intro d
  induction d with
  | zero =>
    intro n m D p q k l v w ho ho' h h' hp hq _ _ _ _ hD
    have nb : ¬ ((k = 3 ∧ l = 3) ∨ (k = 4 ∧ l = 4)) := by
      intro e
      rcases ho with ho | ⟨e2, _⟩
      · exact q_lfk ho (by rcases e with e | e; exact Or.inl e.1; exact Or.inr e.1)
      · rw [e2] at e
        rcases e with e | e
        · exact absurd e.1 (by decide)
        · exact absurd e.1 (by decide)
    cases n with
    | zero =>
      cases m with
      | zero => exact q_cmp1 ho ho' h h' hp hq (by omega) (fun e => absurd e nb)
      | succ m => exact q_cmp1 ho ho' h h' hp hq (by omega) (fun e => absurd e nb)
    | succ n =>
      cases m with
      | zero => exact q_cmp1 ho ho' h h' hp hq (by omega) (fun e => absurd e nb)
      | succ m => exact q_cmp1 ho ho' h h' hp hq (by omega) (fun e => absurd e nb)
  | succ d ih =>
    intro n m D p q k l v w ho ho' h h' hp hq hv hw hn hm hD
    obtain ⟨n, rfl⟩ : ∃ m, n = m + 1 := ⟨n - 1, by omega⟩
    obtain ⟨m, rfl⟩ : ∃ j, m = j + 1 := ⟨m - 1, by omega⟩
    refine q_cmp1 ho ho' h h' hp hq (by omega) (fun hk => ?_)
    have kb : k = 3 ∨ k = 4 := by rcases hk with e | e; exact Or.inl e.1; exact Or.inr e.1
    have lb : l = 3 ∨ l = 4 := by rcases hk with e | e; exact Or.inl e.2; exact Or.inr e.2
    rcases ho with ho | ⟨e, _⟩
    rotate_left
    · rw [e] at kb
      exact absurd kb (by decide)
    rcases ho' with ho' | ⟨e, _⟩
    rotate_left
    · rw [e] at lb
      exact absurd lb (by decide)
    obtain ⟨e1, ps, he, rfl, o1, _⟩ := q_okd ho kb
    obtain ⟨e2, qs, he2, rfl, o2, _⟩ := q_okd ho' lb
    obtain rfl : e1 = d := by omega
    obtain rfl : e2 = e1 := by omega
    rw [q_psb o1 (by omega), q_psb o2 (by omega)]
    rw [q_bxl] at *
    have kk : k.toNat < 32 := by rcases kb with rfl | rfl <;> decide
    have kl : l.toNat < 32 := by rcases lb with rfl | rfl <;> decide
    have pl1 := q_psl ps
    have pl2 := q_psl qs
    have key : ∀ (nm : Bool) (N : Nat), 1000 < N → tw_ST_compareParts_h52 (fun x y => tw_ST_cmp n b x y (iN D + 1)) b (iN D) (b2i nm) (iN (p + 4 + (q_en ps).length)) (iN (q + 4 + (q_en qs).length)) N (iN (p + 4)) (iN (q + 4)) (iN 0) = q_ol (q_ov m) nm ps qs := by
      intro nm N hN
      refine q_cp2_h ps qs (p + 4) (q + 4) N 0 (sb_bx h).2.1 (sb_bx h').2.1 o1 o2 (by omega) (by omega) (by omega) (by omega) ?_
      intro x hx y hy p' q' s1 s2 b1 b2
      simp only [i_1, iN_a]
      have := q_enm hx
      have := q_enm hy
      exact ih n m (D + 1) p' q' x.1 y.1 x.2.2 y.2.2 (Or.inl (o1 x hx).2) (Or.inl (o2 y hy).2) s1 s2 b1 b2 (by omega) (by omega) (by omega) (by omega) (by omega)
    show tw_ST_compareParts _ b _ _ (iN D) = _
    unfold tw_ST_compareParts
    rw [q_eo4 (sb_bx h).1 (by omega) (by omega) kb, q_eo4 (sb_bx h').1 (by omega) (by omega) lb]
    unfold tw_ST_kindOf tw_ST_placeOf
    simp (disch := omega) only [i_0, i_1, i_3, i_4, i_5, i_31, i_1000, q_k, q_p, iN_a, iN_c, iN_le, iN_lt, iN_eq, iN_i, iN_s, qk_3] at key ⊢
    rw [show p + ((q_en ps).length + 5) - 1 = p + 4 + (q_en ps).length by omega, show q + ((q_en qs).length + 5) - 1 = q + 4 + (q_en qs).length by omega]
    rcases hk with ⟨k3, _⟩ | ⟨k4, _⟩
    · have e3 : iN 1 = b2i true := rfl
      rw [if_pos k3, e3, key true _ (by omega), decide_eq_true k3]
    · have k3 : ¬ k = 3 := by
        rw [k4]
        decide
      have e3 : iN 0 = b2i false := rfl
      have := key false _ (show 1000 < (((1000 : Nat) : Int) - ((0 : Nat) : Int)).toNat + 1 by omega)
      rw [e3] at this
      rw [if_neg k3, e3, this, decide_eq_false k3]
theorem q_cmp0 {b : Nat → UInt8} {d p q : Nat} {k l : UInt8} {v w : List UInt8} (ho : q_oz d k v) (ho' : q_oz d l w) (h : sb b p v) (h' : sb b q w) (hp : p + v.length ≤ 202000) (hq : q + w.length ≤ 202000)
    (hv : v.length ≤ 2005) (hw : w.length ≤ 2005) (hd : d ≤ 20) : tw_ST_cmp0 b (iN (32 * p + k.toNat)) (iN (32 * q + l.toNat)) = q_ov 20 k v l w :=
  q_cmp d 41 20 0 p q k l v w ho ho' h h' hp hq hv hw (by omega) (by omega) (by omega)
