/-! the pure part: the reference's ORDER of values -/
def q_s3 (x : Int32) : Prop := x = 0 ∨ x = 1 ∨ x = -1
theorem q_ob3 (l m : List UInt8) : q_s3 (q_ob l m) := by
  induction l generalizing m with
  | nil => cases m <;> simp [q_ob, q_s3]
  | cons x l ih =>
    cases m with
    | nil => simp [q_ob, q_s3]
    | cons y m =>
      unfold q_ob
      split
      · exact ih m
      · split <;> simp [q_s3]
theorem q_lc3 (x y : Int64) : q_s3 (lg_cmp x y) := by
  unfold lg_cmp
  repeat' split
  all_goals simp [q_s3]
theorem q_ol3 {f : UInt8 → List UInt8 → UInt8 → List UInt8 → Int32} {nm : Bool} (hf : ∀ k v l w, q_s3 (f k v l w)) (ps qs : List q_P) : q_s3 (q_ol f nm ps qs) := by
  induction ps generalizing qs with
  | nil => cases qs <;> simp [q_ol, q_s3]
  | cons x a ih =>
    cases qs with
    | nil => simp [q_ol, q_s3]
    | cons y c =>
      unfold q_ol
      split
      · split
        · exact q_ob3 _ _
        · split
          · exact ih c
          · exact hf _ _ _ _
      · split <;> simp [q_s3]
theorem q_o13 {g : Bool → List q_P → List q_P → Int32} (hg : ∀ nm ps qs, q_s3 (g nm ps qs)) (k : UInt8) (v : List UInt8) (l : UInt8) (w : List UInt8) : q_s3 (q_o1 g k v l w) := by
  unfold q_o1
  split
  · split
    · exact q_lc3 _ _
    · split
      · exact q_ob3 _ _
      · split
        · exact hg _ _ _
        · split
          · exact hg _ _ _
          · simp [q_s3]
  · split <;> simp [q_s3]
theorem q_ov3 : ∀ (d : Nat) (k : UInt8) (v : List UInt8) (l : UInt8) (w : List UInt8), q_s3 (q_ov d k v l w) := by
  intro d
  induction d with
  | zero => exact fun k v l w => q_o13 (fun _ _ _ => Or.inl rfl) k v l w
  | succ d ih => exact fun k v l w => q_o13 (fun nm ps qs => q_ol3 ih ps qs) k v l w
theorem q_ovc (d : Nat) (k : UInt8) (v : List UInt8) (l : UInt8) (w : List UInt8) (h : q_cl k ≠ q_cl l) : q_ov d k v l w = if q_cl l ≤ q_cl k then 1 else -1 := by
  cases d with
  | zero =>
    unfold q_ov q_o1
    rw [if_neg h]
  | succ d =>
    unfold q_ov q_o1
    rw [if_neg h]
theorem r_sg {x : Int32} (h : q_s3 x) (h0 : x ≠ 0) : (if 0 ≤ x then some (1 : Int32) else some (-1)) = some x := by
  rcases h with rfl | rfl | rfl
  · exact absurd rfl h0
  · rfl
  · rfl
theorem r_obx_h {fu : Nat} {fo : Int32 → Int32 → Int32 → Int32 → Option Int32} {K : Int32 → Int32 → Option Int32} {st : Nat → Int32} {f : UInt8 → List UInt8 → UInt8 → List UInt8 → Int32} {nm : Bool} {d : Nat}
    (hK : ∀ x y, K x y = if x ≤ 0 then (if y ≤ 0 then some 0 else some (-1)) else some 1) (h3 : ∀ k v l w, q_s3 (f k v l w)) (hc : ∀ k v l w, q_cl k ≠ q_cl l → f k v l w = if q_cl l ≤ q_cl k then 1 else -1) (hfu : 2500 ≤ fu) :
    ∀ (ps qs : List q_P) (e e' n : Nat), sm st e (q_en ps ++ [0]) → sm st e' (q_en qs ++ [0]) → q_op d ps → q_op d qs → 0 < e → 0 < e' → e + (q_en ps).length < 136400 → e' + (q_en qs).length < 136400 →
    (q_en ps).length ≤ 2000 → (q_en qs).length ≤ 2000 → ps.length < n →
    (∀ x ∈ ps, ∀ y ∈ qs, ∀ p q, sm st p x.2.2 → sm st q y.2.2 → p + x.2.2.length ≤ 136400 → q + y.2.2.length ≤ 136400 → fo (iN x.1.toNat) (iN p) (iN y.1.toNat) (iN q) = some (f x.1 x.2.2 y.1 y.2.2)) →
    tw_MO_orderBoxes_h14 fu fo K st (b2i nm) n (iN (q_pt e ps)) (iN (q_pt e' qs)) = some (q_ol f nm ps qs) := by
  intro ps
  induction ps with
  | nil =>
    intro qs e e' n h h' ho ho' he he' hp hp' hl hl' hn hf
    obtain ⟨n, rfl⟩ : ∃ m, n = m + 1 := ⟨n - 1, by omega⟩
    unfold tw_MO_orderBoxes_h14
    rw [hK]
    cases qs with
    | nil => rfl
    | cons y c =>
      show (if iN 0 ≤ 0 then (if iN 0 ≤ 0 then (if iN e' ≤ 0 then some 0 else some (-1)) else some 1) else _) = _
      simp (disch := omega) only [i_0, iN_a, iN_c, iN_le, iN_lt, iN_eq, iN_i]
      rw [if_pos (by omega), if_pos (by omega), if_neg (by omega)]
      rfl
  | cons x a ih =>
    intro qs e e' n h h' ho ho' he he' hp hp' hl hl' hn hf
    obtain ⟨n, rfl⟩ : ∃ m, n = m + 1 := ⟨n - 1, by omega⟩
    rw [List.length_cons] at hn
    have e1 := q_e1l x
    have e2 := q_enl x a
    cases qs with
    | nil =>
      unfold tw_MO_orderBoxes_h14
      rw [hK]
      show (if iN e ≤ 0 then _ else if iN 0 ≤ 0 then (if iN e ≤ 0 then _ else some 1) else _) = _
      simp (disch := omega) only [i_0, iN_a, iN_c, iN_le, iN_lt, iN_eq, iN_i]
      rw [if_neg (by omega), if_pos (by omega), if_neg (by omega)]
      rfl
    | cons y c =>
      have e3 := q_e1l y
      have e4 := q_enl y c
      obtain ⟨h1, h2⟩ := sm_en h
      obtain ⟨h1', h2'⟩ := sm_en h'
      obtain ⟨ha, hb⟩ := ho x List.mem_cons_self
      obtain ⟨ha', hb'⟩ := ho' y List.mem_cons_self
      have s1 := sm_e1 h1
      have s2 := sm_e1 h1'
      have F := hf x List.mem_cons_self y List.mem_cons_self _ _ s1.2.2.2 s2.2.2.2 (by omega) (by omega)
      have IH := ih c (e + (q_e1 x).length) (e' + (q_e1 y).length) n h2 h2' (fun z hz => ho z (List.mem_cons_of_mem _ hz)) (fun z hz => ho' z (List.mem_cons_of_mem _ hz)) (by omega) (by omega) (by omega) (by omega) (by omega) (by omega) (by omega)
        (fun z hz w hw => hf z (List.mem_cons_of_mem _ hz) w (List.mem_cons_of_mem _ hw))
      have N1 := r_no (fu := fu) h ho (by omega) (by omega)
      have N2 := r_no (fu := fu) h' ho' (by omega) (by omega)
      have V1 := r_vo (fu := fu) h1 ha (by omega) (by omega)
      have V2 := r_vo (fu := fu) h1' ha' (by omega) (by omega)
      have M1 := r_ne (fu := fu) h1 ha (by omega) (by omega)
      have M2 := r_ne (fu := fu) h1' ha' (by omega) (by omega)
      have c1 := q_cl7 x.1
      have c2 := q_cl7 y.1
      have f3 := h3 x.1 x.2.2 y.1 y.2.2
      unfold tw_MO_orderBoxes_h14
      rw [q_ptc, q_ptc]
      rw [if_neg (by simp (disch := omega) only [i_0, iN_a, iN_c, iN_le, iN_lt, iN_eq, iN_i]; omega), if_neg (by simp (disch := omega) only [i_0, iN_a, iN_c, iN_le, iN_lt, iN_eq, iN_i]; omega)]
      have R : ∀ (Q : Int32 → Option Int32), tw_MO_orderBoxes_r100 fu fo Q st (b2i nm) (iN e) (iN e') 0 = Q (f x.1 x.2.2 y.1 y.2.2) := by
        intro Q
        unfold tw_MO_orderBoxes_r100
        simp (disch := omega) only [i_0, i_136400, iN_a, iN_c, iN_le, iN_lt, iN_eq, iN_i]
        rw [if_pos trivial, if_pos ⟨by omega, by omega⟩, V1]
        simp only [ob1]
        rw [if_pos ⟨by omega, by omega⟩, V2, s1.1, s2.1]
        simp only [F]
      have R2 : ∀ (Q : Int32 → Option Int32) (z : Int32), z ≠ 0 → tw_MO_orderBoxes_r100 fu fo Q st (b2i nm) (iN e) (iN e') z = Q z := by
        intro Q z hz
        unfold tw_MO_orderBoxes_r100
        rw [if_neg hz]
      have T : ∀ r : Int32, q_s3 r → (if r = 0 then ob1 (tw_MO_nextOf fu st (iN e)) (fun r_24 => ob1 (tw_MO_nextOf fu st (iN e')) (fun r_25 => tw_MO_orderBoxes_h14 fu fo K st (b2i nm) n r_24 r_25)) else if 0 ≤ r then some 1 else some (-1)) =
          some (if r = 0 then q_ol f nm a c else r) := by
        intro r hr
        by_cases r0 : r = 0
        · rw [if_pos r0, if_pos r0, N1, N2]
          simp only [ob1]
          exact IH
        · rw [if_neg r0, if_neg r0, r_sg hr r0]
      cases nm with
      | false =>
        unfold tw_MO_orderBoxes_r24
        rw [if_pos (show b2i false = 0 from rfl)]
        dsimp only
        rw [if_pos rfl, if_pos (show b2i false = 0 from rfl), R, T _ f3, q_olc]
        by_cases u1 : q_cl x.1 = q_cl y.1
        · rw [if_pos u1, if_neg (show ¬ (false = true ∧ q_ob x.2.1 y.2.1 ≠ 0) from fun z => by cases z.1)]
        · rw [if_neg u1, hc _ _ _ _ u1]
          by_cases u3 : q_cl y.1 ≤ q_cl x.1
          · rw [if_pos u3]
            rfl
          · rw [if_neg u3]
            rfl
      | true =>
        unfold tw_MO_orderBoxes_r24
        rw [if_neg (show ¬ b2i true = 0 by decide), if_pos (by simp (disch := omega) only [i_0, i_136400, iN_a, iN_c, iN_le, iN_lt, iN_eq, iN_i]; omega), if_pos (by simp (disch := omega) only [i_0, i_136400, iN_a, iN_c, iN_le, iN_lt, iN_eq, iN_i]; omega), iN_c (by omega), iN_c (by omega), s1.1, s2.1, r_cl, r_cl]
        dsimp only
        rw [q_olc]
        by_cases u1 : q_cl x.1 = q_cl y.1
        · have z : iN (q_cl x.1) - iN (q_cl y.1) = 0 := by
            rw [i_0, q_d0 _ _ (by omega) (by omega)]
            exact u1
          rw [if_pos z, if_neg (show ¬ b2i true = 0 by decide), if_pos u1, M1, obs1, M2, obs1]
          rw [show iN (e + x.2.1.length + 1) - iN e - 1 = iN x.2.1.length by rw [i_1, iN_s (by omega), iN_s (by omega)]; exact congrArg iN (by omega), show iN (e' + y.2.1.length + 1) - iN e' - 1 = iN y.2.1.length by rw [i_1, iN_s (by omega), iN_s (by omega)]; exact congrArg iN (by omega),
            show iN e + 1 = iN (e + 1) from iN_a e 1, show iN e' + 1 = iN (e' + 1) from iN_a e' 1, r_ob s1.2.1 s2.2.1 (by omega) (by omega) (by omega), obs1]
          by_cases u2 : q_ob x.2.1 y.2.1 = 0
          · rw [u2, R, T _ f3, if_neg (show ¬ (true = true ∧ (0 : Int32) ≠ 0) from fun z => z.2 rfl)]
          · rw [R2 _ _ u2, T _ (q_ob3 _ _), if_neg u2, if_pos ⟨rfl, u2⟩]
        · have z : iN (q_cl x.1) - iN (q_cl y.1) ≠ 0 := by
            intro e
            rw [i_0, q_d0 _ _ (by omega) (by omega)] at e
            exact u1 e
          rw [if_neg z, R2 _ _ z, if_neg z, if_neg u1]
          have d1 := q_d1 (q_cl x.1) (q_cl y.1) (by omega) (by omega)
          by_cases u3 : q_cl y.1 ≤ q_cl x.1
          · rw [if_pos u3, if_pos (show (0 : Int32) ≤ _ from d1.symm ▸ u3)]
          · rw [if_neg u3, if_neg (show ¬ (0 : Int32) ≤ _ from fun q => u3 (d1 ▸ q))]
theorem r_o1 {fu : Nat} {fp : Int32 → Int32 → Int32 → Option Int32} {st : Nat → Int32} {g : Bool → List q_P → List q_P → Int32} {d p q : Nat} {k l : UInt8} {v w : List UInt8} (ho : q_oz d k v) (ho' : q_oz d l w) (h : sm st p v) (h' : sm st q w)
    (hp : p + v.length ≤ 136400) (hq : q + w.length ≤ 136400) (hv : v.length ≤ 2005) (hw : w.length ≤ 2005) (hfu : 2500 ≤ fu)
    (hg : (k = 3 ∧ l = 3) ∨ (k = 4 ∧ l = 4) → fp (iN p) (iN q) (b2i (k = 3)) = some (g (k = 3) (q_ps v) (q_ps w))) :
    tw_MO_orderOf fu fp st (iN k.toNat) (iN p) (iN l.toNat) (iN q) = some (q_o1 g k v l w) := by
  have c1 := q_cl7 k
  have c2 := q_cl7 l
  unfold tw_MO_orderOf q_o1
  simp only [r_cl]
  simp (disch := omega) only [i_2, i_3, i_4, i_5, i_6, iN_a, iN_c, iN_le, iN_lt, iN_eq, iN_i]
  by_cases u1 : q_cl k = q_cl l
  · rw [if_pos u1, if_pos u1]
    have num : q_cl k = 2 ∨ q_cl k = 6 → tw_MO_number fu st (iN k.toNat) (iN p) = some (q_nu k v) ∧ tw_MO_number fu st (iN l.toNat) (iN q) = some (q_nu l w) := by
      intro e
      rcases ho with ho | ⟨e2, _⟩
      rotate_left
      · rw [e2] at e
        exact absurd e (by decide)
      rcases ho' with ho' | ⟨e2, _⟩
      rotate_left
      · rw [u1, e2] at e
        exact absurd e (by decide)
      exact ⟨r_num ho e h hp (by omega), r_num ho' (u1 ▸ e) h' hq (by omega)⟩
    have sg : ∀ x y : Int64, (if 0 ≤ lg_cmp x y then (if lg_cmp x y ≤ 0 then some (0 : Int32) else some 1) else some (-1)) = some (lg_cmp x y) := by
      intro x y
      rcases q_lc3 x y with e | e | e <;> rw [e] <;> rfl
    by_cases k2 : q_cl k = 2
    · obtain ⟨n1, n2⟩ := num (Or.inl k2)
      rw [if_pos k2, n1, n2, if_pos (Or.inl k2)]
      simp only [ob1]
      exact sg _ _
    · rw [if_neg k2]
      by_cases k6 : q_cl k = 6
      · obtain ⟨n1, n2⟩ := num (Or.inr k6)
        rw [if_pos k6, n1, n2, if_pos (Or.inr k6)]
        simp only [ob1]
        exact sg _ _
      · rw [if_neg k6, if_neg (show ¬ (q_cl k = 2 ∨ q_cl k = 6) by omega)]
        by_cases k3 : q_cl k = 3
        · rw [if_pos k3, if_pos k3]
          obtain rfl := q_cl3.1 k3
          obtain rfl := q_cl3.1 (u1 ▸ k3)
          rcases ho with ho | ⟨e, _⟩
          rotate_left
          · cases e
          rcases ho' with ho' | ⟨e, _⟩
          rotate_left
          · cases e
          have l1 := q_okl ho (by decide) (by decide)
          have l2 := q_okl ho' (by decide) (by decide)
          unfold q_lf at l1 l2
          rcases l1 with ⟨e, _⟩ | ⟨e, _⟩ | ⟨e, _⟩ | ⟨e, _⟩ | ⟨_, t, rfl⟩
          any_goals cases e
          rcases l2 with ⟨e, _⟩ | ⟨e, _⟩ | ⟨e, _⟩ | ⟨e, _⟩ | ⟨_, t', rfl⟩
          any_goals cases e
          rw [q_txl] at hp hq hv hw
          have s1 := sm_ap.1 h
          have s2 := sm_ap.1 h'
          rw [r_wh s1.1 (by omega) (by omega), r_wh s2.1 (by omega) (by omega), q_ttt, q_ttt]
          simp only [ob1]
          simp (disch := omega) only [i_1, i_4, iN_a, iN_c, iN_le, iN_lt, iN_eq, iN_i, iN_s]
          have := r_ob (fu := fu) (sm_ap.1 s1.2).1 (sm_ap.1 s2.2).1 (by rw [q_l4l]; omega) (by rw [q_l4l]; omega) (by omega)
          rw [q_l4l, q_l4l] at this
          rw [Nat.add_sub_cancel, Nat.add_sub_cancel, this]
        · rw [if_neg k3, if_neg k3]
          by_cases k4 : q_cl k = 4
          · rw [if_pos k4, if_pos k4, if_pos k4]
            have e1 := q_cl4.1 k4
            have e2 := q_cl4.1 (u1 ▸ k4)
            have := hg (Or.inl ⟨e1, e2⟩)
            subst e1
            simp only [decide_true] at this
            rw [show (1 : Int32) = b2i true from rfl, this]
            rfl
          · rw [if_neg k4, if_neg k4]
            by_cases k5 : q_cl k = 5
            · rw [if_pos k5, if_pos k5]
              have e1 := q_cl5.1 k5
              have e2 := q_cl5.1 (u1 ▸ k5)
              have := hg (Or.inr ⟨e1, e2⟩)
              subst e1
              rw [if_neg k4]
              rw [show decide ((4 : UInt8) = 3) = false from rfl] at this
              rw [show (0 : Int32) = b2i false from rfl, this]
              rfl
            · rw [if_neg k5, if_neg k5, if_neg k4]
  · rw [if_neg u1, if_neg u1]
    split <;> rfl
theorem r_ord {fu : Nat} {st : Nat → Int32} (hfu : 2500 ≤ fu) : ∀ (d n m p q : Nat) (k l : UInt8) (v w : List UInt8), q_oz d k v → q_oz d l w → sm st p v → sm st q w → p + v.length ≤ 136400 → q + w.length ≤ 136400 → v.length ≤ 2005 → w.length ≤ 2005 →
    d < n → d ≤ m → tw_MO_ord fu st n (iN k.toNat) (iN p) (iN l.toNat) (iN q) = some (q_ov m k v l w) := by
  intro d
  induction d with
  | zero =>
    intro n m p q k l v w ho ho' h h' hp hq hv hw hn _
    obtain ⟨n, rfl⟩ : ∃ m, n = m + 1 := ⟨n - 1, by omega⟩
    have nb : ¬ ((k = 3 ∧ l = 3) ∨ (k = 4 ∧ l = 4)) := by
      intro e
      rcases ho with ho | ⟨e2, _⟩
      · exact q_lfk ho (by rcases e with e | e; exact Or.inl e.1; exact Or.inr e.1)
      · rw [e2] at e
        rcases e with e | e
        · exact absurd e.1 (by decide)
        · exact absurd e.1 (by decide)
    unfold tw_MO_ord
    cases m with
    | zero => exact r_o1 ho ho' h h' hp hq hv hw hfu (fun e => absurd e nb)
    | succ m => exact r_o1 ho ho' h h' hp hq hv hw hfu (fun e => absurd e nb)
  | succ d ih =>
    intro n m p q k l v w ho ho' h h' hp hq hv hw hn hm
    obtain ⟨n, rfl⟩ : ∃ m, n = m + 1 := ⟨n - 1, by omega⟩
    obtain ⟨m, rfl⟩ : ∃ j, m = j + 1 := ⟨m - 1, by omega⟩
    unfold tw_MO_ord
    refine r_o1 ho ho' h h' hp hq hv hw hfu (fun hk => ?_)
    have kb : k = 3 ∨ k = 4 := by rcases hk with e | e; exact Or.inl e.1; exact Or.inr e.1
    have lb : l = 3 ∨ l = 4 := by rcases hk with e | e; exact Or.inl e.2; exact Or.inr e.2
    rcases ho with ho | ⟨e, _⟩
    rotate_left
    · rw [e] at kb
      exact absurd kb (by decide)
    rcases ho' with ho' | ⟨e, _⟩
    rotate_left
    · rw [e] at lb
      exact absurd lb (by decide)
    obtain ⟨e1, ps, he, rfl, o1, _⟩ := q_okd ho kb
    obtain ⟨e2, qs, he2, rfl, o2, _⟩ := q_okd ho' lb
    obtain rfl : e1 = d := by omega
    obtain rfl : e2 = e1 := by omega
    rw [q_psb o1 (by omega), q_psb o2 (by omega)]
    rw [q_bxl] at *
    have pl1 := q_psl ps
    unfold tw_MO_orderBoxes
    rw [r_fo h o1 (by omega), r_fo h' o2 (by omega)]
    simp only [ob1]
    refine r_obx_h (d := e2) (fun _ _ => rfl) (q_ov3 m) (fun k v l w => q_ovc m k v l w) hfu ps qs (p + 4) (q + 4) fu (sm_ap.1 h).2 (sm_ap.1 h').2 o1 o2 (by omega) (by omega) (by omega) (by omega) (by omega) (by omega) (by omega) ?_
    intro x hx y hy p' q' s1 s2 b1 b2
    have := q_enm hx
    have := q_enm hy
    exact ih n m p' q' x.1 y.1 x.2.2 y.2.2 (Or.inl (o1 x hx).2) (Or.inl (o2 y hy).2) s1 s2 b1 b2 (by omega) (by omega) (by omega) (by omega)
theorem r_ord0 {fu : Nat} {st : Nat → Int32} {d p q : Nat} {k l : UInt8} {v w : List UInt8} (hfu : 2500 ≤ fu) (ho : q_oz d k v) (ho' : q_oz d l w) (h : sm st p v) (h' : sm st q w) (hp : p + v.length ≤ 136400) (hq : q + w.length ≤ 136400)
    (hv : v.length ≤ 2005) (hw : w.length ≤ 2005) (hd : d < 20) : tw_MO_ord0 fu st (iN k.toNat) (iN p) (iN l.toNat) (iN q) = some (q_ov 20 k v l w) :=
  r_ord hfu d 20 20 p q k l v w ho ho' h h' hp hq hv hw hd (by omega)
