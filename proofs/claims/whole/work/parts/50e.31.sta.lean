/-! the pure part: belts -/
def q_FO (F : List (List UInt8)) : Prop := F.length ≤ 200 ∧ F.flatten.length ≤ 40000 ∧ ∀ d ∈ F, q_ok 16 3 d ∧ d.length ≤ 2000
/-- where document i begins -/
def q_pf (F : List (List UInt8)) (i : Nat) : Nat := (F.take i).flatten.length
/-- every start of a belt lies in the store -/
def q_stb (sts : Nat → Int32) : Prop := ∀ i, i < 201 → ∃ n, n ≤ 122000 ∧ sts i = iN n
def q_be (b : Nat → UInt8) (base : Nat) (cnt : Int32) (sts : Nat → Int32) (F : List (List UInt8)) : Prop :=
  cnt = iN F.length ∧ (∀ i, i ≤ F.length → sts i = iN (base + q_pf F i)) ∧ sb b base F.flatten ∧ q_FO F ∧ base + 40000 ≤ 122000 ∧ 2000 ≤ base ∧ q_stb sts
theorem q_pf0 (F : List (List UInt8)) : q_pf F 0 = 0 := rfl
theorem q_pfn (F : List (List UInt8)) : q_pf F F.length = F.flatten.length := by
  unfold q_pf
  rw [List.take_length]
theorem q_pfs {F : List (List UInt8)} {i : Nat} {d : List UInt8} (h : F[i]? = some d) : q_pf F (i + 1) = q_pf F i + d.length := by
  unfold q_pf
  rw [List.take_add_one, h]
  simp
theorem q_pfl (F : List (List UInt8)) (i : Nat) : q_pf F i ≤ F.flatten.length := by
  unfold q_pf
  conv => rhs; rw [← List.take_append_drop i F]
  rw [List.flatten_append, List.length_append]
  omega
theorem q_pfd {F : List (List UInt8)} {i : Nat} {d : List UInt8} (h : F[i]? = some d) : ∃ a c, F.flatten = a ++ (d ++ c) ∧ a.length = q_pf F i := by
  refine ⟨(F.take i).flatten, (F.drop (i + 1)).flatten, ?_, rfl⟩
  have il : i < F.length := (List.getElem?_eq_some_iff.1 h).1
  have e : F[i] = d := (List.getElem?_eq_some_iff.1 h).2
  conv => lhs; rw [← List.take_append_drop i F, List.drop_eq_getElem_cons il]
  rw [List.flatten_append, List.flatten_cons, e]
theorem q_bed {b : Nat → UInt8} {base i : Nat} {cnt : Int32} {sts : Nat → Int32} {F : List (List UInt8)} {d : List UInt8} (h : q_be b base cnt sts F) (hi : F[i]? = some d) : sb b (base + q_pf F i) d ∧ q_ok 16 3 d ∧ d.length ≤ 2000 ∧ base + q_pf F i + d.length ≤ base + F.flatten.length := by
  obtain ⟨h1, h2, h3, h4, h5⟩ := h
  obtain ⟨a, c, e1, e2⟩ := q_pfd hi
  have m := List.mem_of_getElem? hi
  rw [e1] at h3
  have s := (sb_ap.1 h3).2
  rw [e2] at s
  refine ⟨(sb_ap.1 s).1, (h4.2.2 d m).1, (h4.2.2 d m).2, ?_⟩
  rw [e1, List.length_append, List.length_append, e2]
  omega
theorem q_bes {b : Nat → UInt8} {base i : Nat} {cnt : Int32} {sts : Nat → Int32} {F : List (List UInt8)} (h : q_be b base cnt sts F) (hi : i ≤ F.length) : tw_BE_start (iN base) cnt sts (iN i) = iN (base + q_pf F i) := by
  have := h.2.2.2.1.1
  unfold tw_BE_start
  rw [if_neg (by simp (disch := omega) only [i_0, iN_a, iN_c, iN_le, iN_lt, iN_eq, iN_i]; omega), if_neg (by simp (disch := omega) only [i_201, iN_a, iN_c, iN_le, iN_lt, iN_eq, iN_i]; omega), iN_c (by omega), h.2.1 i hi]
theorem q_bee {b : Nat → UInt8} {base : Nat} {cnt : Int32} {sts : Nat → Int32} {F : List (List UInt8)} (h : q_be b base cnt sts F) : tw_BE_end (iN base) cnt sts = iN (base + F.flatten.length) := by
  unfold tw_BE_end
  have e := q_bes h (Nat.le_refl _)
  rw [q_pfn] at e
  rw [← e, ← h.1]
theorem q_pfa {F : List (List UInt8)} {d : List UInt8} {i : Nat} (hi : i ≤ F.length) : q_pf (F ++ [d]) i = q_pf F i := by
  unfold q_pf
  rw [List.take_append_of_le_length hi]
theorem q_fla (F : List (List UInt8)) (d : List UInt8) : (F ++ [d]).flatten = F.flatten ++ d := by
  rw [List.flatten_append]
  simp
/-- a document comes behind the others, or there is no room -/
def q_room (F : List (List UInt8)) (d : List UInt8) : Bool := decide (F.length < 200 ∧ F.flatten.length + d.length ≤ 40000)
theorem c_add {b : Nat → UInt8} {base : Nat} {cnt : Int32} {sts : Nat → Int32} {F : List (List UInt8)} {d : List UInt8} (h : q_be b base cnt sts F) (hd : sb b (base + F.flatten.length) d) (ho : q_ok 16 3 d) (hl : d.length ≤ 2000) :
    (q_room F d = true → ∃ cnt' sts', tw_BE_add (iN base) cnt sts (iN d.length) = (true, cnt', sts') ∧ q_be b base cnt' sts' (F ++ [d])) ∧ (q_room F d = false → tw_BE_add (iN base) cnt sts (iN d.length) = (false, cnt, sts)) := by
  have bee := q_bee h
  obtain ⟨h1, h2, h3, ⟨h41, h42, h43⟩, h5, h6⟩ := h
  unfold tw_BE_add
  rw [bee, h1, if_neg (by simp (disch := omega) only [i_0, iN_a, iN_c, iN_le, iN_lt, iN_eq, iN_i]; omega)]
  have c40 : (iN (base + F.flatten.length) + iN d.length - iN base ≤ 40000) = (F.flatten.length + d.length ≤ 40000) := by
    rw [iN_a, iN_s (by omega), i_40000, iN_le (by omega) (by omega)]
    exact propext ⟨fun q => by omega, fun q => by omega⟩
  unfold q_room
  constructor
  · intro q
    rw [decide_eq_true_eq] at q
    rw [if_neg (by simp (disch := omega) only [i_200, iN_a, iN_c, iN_le, iN_lt, iN_eq, iN_i]; omega), if_pos (Eq.mpr c40 q.2), show iN F.length + 1 = iN (F.length + 1) from iN_a F.length 1, iN_c (by omega), iN_a]
    refine ⟨_, _, rfl, ?_, ?_, ?_, ⟨?_, ?_, ?_⟩, h5, h6.1, ?_⟩
    rotate_left 6
    · intro i hi
      show ∃ n, n ≤ 122000 ∧ (if i = F.length + 1 then _ else sts i) = iN n
      by_cases e : i = F.length + 1
      · rw [if_pos e]
        exact ⟨_, by omega, rfl⟩
      · rw [if_neg e]
        exact h6.2 i hi
    · rw [List.length_append]
      rfl
    · intro i hi
      rw [List.length_append] at hi
      simp only [List.length_cons, List.length_nil] at hi
      show (if i = F.length + 1 then _ else sts i) = _
      by_cases e : i = F.length + 1
      · rw [if_pos e, e]
        have : q_pf (F ++ [d]) (F.length + 1) = F.flatten.length + d.length := by
          have := q_pfn (F ++ [d])
          rw [List.length_append, q_fla, List.length_append] at this
          exact this
        rw [this, Nat.add_assoc]
      · rw [if_neg e, h2 i (by omega), q_pfa (by omega)]
    · rw [q_fla]
      exact sb_ap.2 ⟨h3, hd⟩
    · rw [List.length_append]
      simp only [List.length_cons, List.length_nil]
      omega
    · rw [q_fla, List.length_append]
      omega
    · intro x hx
      rcases List.mem_append.1 hx with hx | hx
      · exact h43 x hx
      · rw [List.mem_singleton.1 hx]
        exact ⟨ho, hl⟩
  · intro q
    rw [decide_eq_false_iff_not] at q
    by_cases c : 200 ≤ F.length
    · rw [if_pos (by simp (disch := omega) only [i_200, iN_a, iN_c, iN_le, iN_lt, iN_eq, iN_i]; omega)]
    · rw [if_neg (by simp (disch := omega) only [i_200, iN_a, iN_c, iN_le, iN_lt, iN_eq, iN_i]; omega), if_neg (fun z => q ⟨by omega, Eq.mp c40 z⟩)]
theorem q_bef {b b' : Nat → UInt8} {base : Nat} {cnt : Int32} {sts : Nat → Int32} {F : List (List UInt8)} (h : q_be b base cnt sts F) (hf : ∀ j, base ≤ j → j < base + F.flatten.length → b' j = b j) : q_be b' base cnt sts F :=
  ⟨h.1, h.2.1, sb_fr h.2.2.1 hf, h.2.2.2⟩
theorem c_aim {t m : Nat} {place limit : Int32} {full : Bool} (h : t + m ≤ 202000) : tw_WR_aim place limit full (iN t) (iN m) = (iN t, iN (t + m), false) := by
  unfold tw_WR_aim
  rw [if_pos (q_p0 (by omega)), iN_a, if_neg (by simp (disch := omega) only [i_202000, iN_a, iN_c, iN_le, iN_lt, iN_eq, iN_i]; omega)]
theorem q_tp3 {T1 T2 T3 Z : Type} (q : T1 × T2 × T3) (f : T1 → T2 → T3 → Z) : tp3 q f = f q.1 q.2.1 q.2.2 := rfl
/-- a document that lies somewhere is put behind a belt's documents -/
theorem c_app {b : Nat → UInt8} {base a : Nat} {cnt place limit : Int32} {full : Bool} {sts : Nat → Int32} {F : List (List UInt8)} {d : List UInt8} (h : q_be b base cnt sts F) (hd : sb b a d) (ha : a + d.length ≤ 122000) (hda : a + d.length ≤ base ∨ base + 40000 ≤ a) (ho : q_ok 16 3 d) (hl : d.length ≤ 2000) :
    ∃ p' l' f' b', (∀ j, j < base + F.flatten.length ∨ base + 40000 ≤ j → b' j = b j) ∧
    (q_room F d = true → ∃ cnt' sts', tw_BS_append (iN base) place limit full b cnt sts (iN a) (iN d.length) = (true, p', l', f', b', cnt', sts') ∧ q_be b' base cnt' sts' (F ++ [d])) ∧
    (q_room F d = false → tw_BS_append (iN base) place limit full b cnt sts (iN a) (iN d.length) = (false, p', l', f', b', cnt, sts) ∧ q_be b' base cnt sts F) := by
  have bee := q_bee h
  have h5 := h.2.2.2.2.1
  have h42 := h.2.2.2.1.2.1
  obtain ⟨r, r1, r2⟩ := c_cp (L := base + 40000) (t := base + F.flatten.length) (o := false) (b := b) (a := a) (l := d) (by omega) (by omega) hd (by omega)
  refine ⟨iN r.1, iN (base + 40000), r.2.1, r.2.2, r2.1, ?_, ?_⟩
  all_goals
    intro q
    unfold tw_BS_append
    rw [bee, show iN base + 40000 = iN (base + 40000) from iN_a base 40000, iN_s (by omega), c_aim (by omega), q_tp3]
    dsimp only
    rw [show base + F.flatten.length + (base + 40000 - (base + F.flatten.length)) = base + 40000 by omega, iN_a, r1, q_t4e]
  · have rm : F.length < 200 ∧ F.flatten.length + d.length ≤ 40000 := by
      unfold q_room at q
      rwa [decide_eq_true_eq] at q
    obtain ⟨c1, c2, c3⟩ := r2.2.2.2.1 ⟨rfl, by omega⟩
    have hb : q_be r.2.2 base cnt sts F := q_bef h (fun j h1 h2 => r2.1 j (Or.inl h2))
    obtain ⟨cnt', sts', a1, a2⟩ := (c_add hb c3 ho hl).1 q
    rw [c2, if_pos (show b2i false = 0 from rfl), a1, q_tp3]
    exact ⟨cnt', sts', rfl, a2⟩
  · have hb : q_be r.2.2 base cnt sts F := q_bef h (fun j h1 h2 => r2.1 j (Or.inl h2))
    refine ⟨?_, hb⟩
    by_cases c : base + F.flatten.length + d.length ≤ base + 40000
    · obtain ⟨c1, c2, c3⟩ := r2.2.2.2.1 ⟨rfl, c⟩
      have a1 := (c_add hb c3 ho hl).2 q
      rw [c2, if_pos (show b2i false = 0 from rfl), a1, q_tp3]
      rfl
    · have c2 := r2.2.2.2.2 (fun z => c z.2)
      rw [c2, if_neg (by decide)]
/-- the reference's belts -/
def q_rb (st : Nat → Int32) (w : Nat) (dcs tot frm siz : Nat → Int32) (F : List (List UInt8)) : Prop :=
  dcs w = iN F.length ∧ tot w = iN F.flatten.length ∧ (∀ i d, F[i]? = some d → frm (200 * w + i) = iN (40000 * w + q_pf F i) ∧ siz (200 * w + i) = iN d.length) ∧ sm st (40000 * w) F.flatten ∧ q_FO F
theorem q_rbd {st : Nat → Int32} {w i : Nat} {dcs tot frm siz : Nat → Int32} {F : List (List UInt8)} {d : List UInt8} (h : q_rb st w dcs tot frm siz F) (hi : F[i]? = some d) : sm st (40000 * w + q_pf F i) d ∧ q_ok 16 3 d ∧ d.length ≤ 2000 ∧ 40000 * w + q_pf F i + d.length ≤ 40000 * w + F.flatten.length := by
  obtain ⟨h1, h2, h3, h4, h5⟩ := h
  obtain ⟨a, c, e1, e2⟩ := q_pfd hi
  have m := List.mem_of_getElem? hi
  rw [e1] at h4
  have s := (sm_ap.1 h4).2
  rw [e2] at s
  refine ⟨(sm_ap.1 s).1, (h5.2.2 d m).1, (h5.2.2 d m).2, ?_⟩
  rw [e1, List.length_append, List.length_append, e2]
  omega
theorem q_rbf {st st' : Nat → Int32} {w : Nat} {dcs tot frm siz : Nat → Int32} {F : List (List UInt8)} (h : q_rb st w dcs tot frm siz F) (hf : ∀ j, 40000 * w ≤ j → j < 40000 * w + F.flatten.length → st' j = st j) : q_rb st' w dcs tot frm siz F :=
  ⟨h.1, h.2.1, h.2.2.1, sm_fr h.2.2.2.1 hf, h.2.2.2.2⟩
/-- what the two machines hold: both belts and the tape -/
def q_cs (b : Nat → UInt8) (fb kb nb : Nat) (fcnt : Int32) (fsts : Nat → Int32) (kcnt : Int32) (ksts : Nat → Int32) (onT : Int32) (F K : List (List UInt8)) (T : List UInt8) : Prop :=
  q_be b fb fcnt fsts F ∧ q_be b kb kcnt ksts K ∧ sb b 0 T ∧ onT = iN T.length ∧ T.length ≤ 2000 ∧ 2000 ≤ nb ∧ nb + 40000 ≤ 122000 ∧ (fb + 40000 ≤ kb ∨ kb + 40000 ≤ fb) ∧ (fb + 40000 ≤ nb ∨ nb + 40000 ≤ fb) ∧ (nb + 40000 ≤ kb ∨ kb + 40000 ≤ nb)
def q_rs2 (st : Nat → Int32) (dcs tot frm siz : Nat → Int32) (tpd : Int32) (F K : List (List UInt8)) (T : List UInt8) : Prop :=
  q_rb st 0 dcs tot frm siz F ∧ q_rb st 1 dcs tot frm siz K ∧ sm st 132400 T ∧ tpd = iN T.length ∧ T.length ≤ 2000
