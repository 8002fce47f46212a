/-! the pure part: clear, feed, swap -/
theorem q_be0 {b : Nat → UInt8} {base : Nat} {cnt : Int32} {sts : Nat → Int32} {F : List (List UInt8)} (h : q_be b base cnt sts F) : q_be b base 0 sts [] := by
  refine ⟨rfl, ?_, trivial, ⟨Nat.zero_le _, Nat.zero_le _, (fun d hd => by cases hd)⟩, h.2.2.2.2⟩
  intro i hi
  have : i = 0 := Nat.le_zero.1 hi
  subst this
  exact h.2.1 0 (Nat.zero_le _)
theorem c_clear {b : Nat → UInt8} {fb kb nb : Nat} {fcnt kcnt onT : Int32} {fsts ksts : Nat → Int32} {F K : List (List UInt8)} {T : List UInt8} (h : q_cs b fb kb nb fcnt fsts kcnt ksts onT F K T) (p : Int32) :
    ∃ fc kc, tw_PB_clear (iN fb) (iN kb) fcnt kcnt p = ((if p = 0 then iN F.length else if p = 1 then iN K.length else -1), fc, kc) ∧ q_cs b fb kb nb fc fsts kc ksts onT (if p = 0 then [] else F) (if p = 0 then K else if p = 1 then [] else K) T := by
  unfold tw_PB_clear
  by_cases p0 : p = 0
  · rw [if_pos p0, if_pos p0, if_pos p0, if_pos p0]
    exact ⟨0, kcnt, by rw [h.1.1], q_be0 h.1, h.2⟩
  rw [if_neg p0, if_neg p0, if_neg p0, if_neg p0]
  by_cases p1 : p = 1
  · rw [if_pos p1, if_pos p1, if_pos p1]
    exact ⟨fcnt, 0, by rw [h.2.1.1], h.1, q_be0 h.2.1, h.2.2⟩
  · rw [if_neg p1, if_neg p1, if_neg p1]
    exact ⟨fcnt, kcnt, rfl, h⟩
theorem q_rb0 {st : Nat → Int32} {w : Nat} {dcs tot frm siz : Nat → Int32} : q_rb st w (upd dcs w 0) (upd tot w 0) frm siz [] := by
  refine ⟨?_, ?_, (fun i d h => by cases h), trivial, Nat.zero_le _, Nat.zero_le _, (fun d hd => by cases hd)⟩
  · show (if w = w then _ else _) = _
    rw [if_pos rfl]
    rfl
  · show (if w = w then _ else _) = _
    rw [if_pos rfl]
    rfl
theorem q_rbu {st : Nat → Int32} {w u : Nat} {dcs tot frm siz : Nat → Int32} {x y : Int32} {F : List (List UInt8)} (hu : w ≠ u) (h : q_rb st w dcs tot frm siz F) : q_rb st w (upd dcs u x) (upd tot u y) frm siz F := by
  refine ⟨?_, ?_, h.2.2⟩
  · show (if w = u then _ else _) = _
    rw [if_neg hu]
    exact h.1
  · show (if w = u then _ else _) = _
    rw [if_neg hu]
    exact h.2.1
theorem r_clear {fu : Nat} {st dcs tot frm siz : Nat → Int32} {tpd : Int32} {F K : List (List UInt8)} {T : List UInt8} (h : q_rs2 st dcs tot frm siz tpd F K T) (p : Int32) :
    ∃ dc to, tw_MO_clear fu dcs tot p = some ((if p = 0 then iN F.length else if p = 1 then iN K.length else -1), dc, to) ∧ q_rs2 st dc to frm siz tpd (if p = 0 then [] else F) (if p = 0 then K else if p = 1 then [] else K) T := by
  unfold tw_MO_clear
  by_cases p0 : p = 0
  · subst p0
    rw [if_neg (by decide), if_pos (by decide), if_pos (by decide), if_pos rfl, if_pos rfl, if_pos rfl]
    refine ⟨_, _, congrArg (fun z => some (z, _, _)) h.1.1, q_rb0, q_rbu (by decide) h.2.1, h.2.2⟩
  rw [if_neg p0, if_neg p0, if_neg p0]
  by_cases p1 : p = 1
  · subst p1
    rw [if_neg (by decide), if_pos (by decide), if_pos (by decide), if_pos rfl, if_pos rfl]
    refine ⟨_, _, congrArg (fun z => some (z, _, _)) h.2.1.1, q_rbu (by decide) h.1, q_rb0, h.2.2⟩
  rw [if_neg p1, if_neg p1]
  rcases q_01c p0 p1 with q | q
  · rw [if_pos q]
    exact ⟨_, _, rfl, h⟩
  · rw [if_neg (fun z => Int32.lt_asymm z (Int32.lt_trans (by decide) q)), if_neg (fun z => absurd q (Int32.not_lt.2 z))]
    exact ⟨_, _, rfl, h⟩
/-- the four bytes of a number, the highest first -/
def q_4b (x : Int32) : List UInt8 := [q_by (x >>> (24 &&& 31)), q_by (x >>> (16 &&& 31)), q_by (x >>> (8 &&& 31)), q_by (x >>> (0 &&& 31))]
theorem c_fn {t : Nat} {b : Nat → UInt8} {x : Int32} (ht : t + 4 ≤ 2000) : ∃ b', tw_PB_feedNumber (iN t) b x = (iN (t + 4), b') ∧ sb b' t (q_4b x) ∧ ∀ j, j < t ∨ t + 4 ≤ j → b' j = b j := by
  have step : ∀ (s : Int32) (n u : Nat) (b : Nat → UInt8), ¬ s < 0 → u < 2000 → tw_PB_feedNumber_h3 x (n + 1) s (iN u) b = tw_PB_feedNumber_h3 x n (s + -8) (iN (u + 1)) (fun j => if j = u then q_by (x >>> (s &&& 31)) else b j) := by
    intro s n u b hs hu
    conv => lhs; unfold tw_PB_feedNumber_h3
    have w : tw_ST_write b (0 + iN u) (x >>> (s &&& 31)) = fun j => if j = u then q_by (x >>> (s &&& 31)) else b j := by
      unfold tw_ST_write
      rw [show (0 : Int32) + iN u = iN u from (iN_a 0 u).trans (congrArg iN (Nat.zero_add u)), if_neg (by simp (disch := omega) only [i_0, iN_a, iN_c, iN_le, iN_lt, iN_eq, iN_i]; omega), if_neg (by simp (disch := omega) only [i_202000, iN_a, iN_c, iN_le, iN_lt, iN_eq, iN_i]; omega), iN_c (by omega)]
      funext j
      show (if j = u then _ else b j) = _
      rw [q_byw]
    rw [if_neg hs, w]
    show tw_PB_feedNumber_h3 x n (s + -8) (iN u + 1) _ = _
    rw [show iN u + 1 = iN (u + 1) from iN_a u 1]
  unfold tw_PB_feedNumber
  rw [show (((24 : Int32).toInt + 8).toNat + 1) = 28 + 1 + 1 + 1 + 1 + 1 from rfl, step 24 _ _ _ (by decide) (by omega), show (24 : Int32) + -8 = 16 from rfl, step 16 _ _ _ (by decide) (by omega), show (16 : Int32) + -8 = 8 from rfl, step 8 _ _ _ (by decide) (by omega), show (8 : Int32) + -8 = 0 from rfl, step 0 _ _ _ (by decide) (by omega)]
  unfold tw_PB_feedNumber_h3
  rw [if_pos (by decide)]
  refine ⟨_, rfl, ?_, ?_⟩
  · unfold q_4b
    refine ⟨?_, ?_, ?_, ?_, trivial⟩
    · dsimp only
      rw [if_neg (by omega), if_neg (by omega), if_neg (by omega), if_pos (by omega)]
    · dsimp only
      rw [if_neg (by omega), if_neg (by omega), if_pos (by omega)]
    · dsimp only
      rw [if_neg (by omega), if_pos (by omega)]
    · dsimp only
      rw [if_pos (by omega)]
  · intro j hj
    rw [if_neg (by omega), if_neg (by omega), if_neg (by omega), if_neg (by omega)]
theorem q_b255 (x : Int32) : x &&& 255 = iN (q_by x).toNat := by
  apply q_bvi
  show (x.toBitVec &&& (255 : Int32).toBitVec).toNat = _
  rw [q_bv, BitVec.toNat_and]
  show (x.toBitVec.toNat &&& (2 ^ 8 - 1)) = _
  rw [Nat.and_two_pow_sub_one_eq_mod]
  have e : (q_by x).toNat = x.toBitVec.toNat % 256 := by
    show (x.toBitVec.signExtend 8).toNat = _
    rw [BitVec.signExtend_eq_setWidth_of_le _ (by omega), BitVec.toNat_setWidth]
  rw [e]
  omega
theorem r_tk {fu t : Nat} {st : Nat → Int32} {x : Int32} (ht : t + 4 ≤ 2000) (hf : 10 ≤ fu) : ∃ st', tw_MO_take fu (iN t) st x = some (iN (t + 4), st') ∧ sm st' (132400 + t) (q_4b x) ∧ ∀ j, j < 132400 + t ∨ 132400 + t + 4 ≤ j → st' j = st j := by
  have step : ∀ (K : Int32 → Int32 → (Nat → Int32) → Option (Int32 × (Nat → Int32))) (s : Int32) (n u : Nat) (st : Nat → Int32), ¬ s < 0 → u < 2000 → tw_MO_take_h3 fu K x (n + 1) s (iN u) st = tw_MO_take_h3 fu K x n (s + -8) (iN (u + 1)) (fun j => if j = 132400 + u then iN (q_by (x >>> (s &&& 31))).toNat else st j) := by
    intro K s n u st hs hu
    conv => lhs; unfold tw_MO_take_h3
    rw [if_neg hs, show (132400 : Int32) + iN u = iN (132400 + u) from iN_a 132400 u, if_pos (by simp (disch := omega) only [i_0, i_136400, iN_a, iN_c, iN_le, iN_lt, iN_eq, iN_i]; omega), iN_c (by omega), q_b255, show iN u + 1 = iN (u + 1) from iN_a u 1]
    rfl
  obtain ⟨f, rfl⟩ : ∃ f, fu = f + 1 + 1 + 1 + 1 + 1 := ⟨fu - 5, by omega⟩
  unfold tw_MO_take
  rw [step _ 24 _ _ _ (by decide) (by omega), show (24 : Int32) + -8 = 16 from rfl, step _ 16 _ _ _ (by decide) (by omega), show (16 : Int32) + -8 = 8 from rfl, step _ 8 _ _ _ (by decide) (by omega), show (8 : Int32) + -8 = 0 from rfl, step _ 0 _ _ _ (by decide) (by omega)]
  unfold tw_MO_take_h3
  rw [if_pos (by decide)]
  refine ⟨_, rfl, ?_, ?_⟩
  · unfold q_4b
    refine ⟨?_, ?_, ?_, ?_, trivial⟩
    · dsimp only
      rw [if_neg (by omega), if_neg (by omega), if_neg (by omega), if_pos (by omega)]
    · dsimp only
      rw [if_neg (by omega), if_neg (by omega), if_pos (by omega)]
    · dsimp only
      rw [if_neg (by omega), if_pos (by omega)]
    · dsimp only
      rw [if_pos (by omega)]
  · intro j hj
    rw [if_neg (by omega), if_neg (by omega), if_neg (by omega), if_neg (by omega)]
def q_aF (T : List UInt8) (a c d e f : Int32) : List UInt8 := T ++ (q_4b a ++ (q_4b c ++ (q_4b d ++ (q_4b e ++ q_4b f))))
theorem q_tp2 {T1 T2 Z : Type} (q : T1 × T2) (f : T1 → T2 → Z) : tp2 q f = f q.1 q.2 := rfl
theorem c_feed {b : Nat → UInt8} {fb kb nb : Nat} {fcnt kcnt onT : Int32} {fsts ksts : Nat → Int32} {F K : List (List UInt8)} {T : List UInt8} (h : q_cs b fb kb nb fcnt fsts kcnt ksts onT F K T) (a c d e f : Int32) :
    (T.length + 20 ≤ 2000 → ∃ b', tw_PB_feed onT b a c d e f = (iN (T.length + 20), iN (T.length + 20), b') ∧ q_cs b' fb kb nb fcnt fsts kcnt ksts (iN (T.length + 20)) F K (q_aF T a c d e f)) ∧ (¬ T.length + 20 ≤ 2000 → tw_PB_feed onT b a c d e f = (-1, onT, b)) := by
  obtain ⟨h1, h2, h3, h4, h5, h6⟩ := h
  unfold tw_PB_feed
  rw [h4, show iN T.length + 20 = iN (T.length + 20) from iN_a _ 20]
  constructor
  · intro q
    obtain ⟨b1, x1, y1, z1⟩ := c_fn (t := T.length) (b := b) (x := a) (by omega)
    obtain ⟨b2, x2, y2, z2⟩ := c_fn (t := T.length + 4) (b := b1) (x := c) (by omega)
    obtain ⟨b3, x3, y3, z3⟩ := c_fn (t := T.length + 4 + 4) (b := b2) (x := d) (by omega)
    obtain ⟨b4, x4, y4, z4⟩ := c_fn (t := T.length + 4 + 4 + 4) (b := b3) (x := e) (by omega)
    obtain ⟨b5, x5, y5, z5⟩ := c_fn (t := T.length + 4 + 4 + 4 + 4) (b := b4) (x := f) (by omega)
    rw [if_pos (by simp (disch := omega) only [i_2000, iN_a, iN_c, iN_le, iN_lt, iN_eq, iN_i]; exact q), x1, q_tp2]
    dsimp only
    rw [x2, q_tp2]
    dsimp only
    rw [x3, q_tp2]
    dsimp only
    rw [x4, q_tp2]
    dsimp only
    rw [x5, q_tp2]
    have fr : ∀ j, j < T.length ∨ T.length + 20 ≤ j → b5 j = b j := by
      intro j hj
      rw [z5 j (by omega), z4 j (by omega), z3 j (by omega), z2 j (by omega), z1 j (by omega)]
    have l4 : ∀ x, (q_4b x).length = 4 := fun _ => rfl
    refine ⟨b5, rfl, ?_⟩
    have g1 := h1.2.2.2.2.2
    have g2 := h2.2.2.2.2.2
    refine ⟨q_bef h1 (fun j u v => fr j (by omega)), q_bef h2 (fun j u v => fr j (by omega)), ?_, ?_, ?_, h6⟩
    · unfold q_aF
      refine sb_ap.2 ⟨sb_fr h3 (fun j u v => fr j (by omega)), ?_⟩
      rw [Nat.zero_add]
      refine sb_ap.2 ⟨sb_fr y1 (fun j u v => by rw [l4] at v; rw [z5 j (by omega), z4 j (by omega), z3 j (by omega), z2 j (by omega)]), ?_⟩
      rw [l4]
      refine sb_ap.2 ⟨sb_fr y2 (fun j u v => by rw [l4] at v; rw [z5 j (by omega), z4 j (by omega), z3 j (by omega)]), ?_⟩
      rw [l4]
      refine sb_ap.2 ⟨sb_fr y3 (fun j u v => by rw [l4] at v; rw [z5 j (by omega), z4 j (by omega)]), ?_⟩
      rw [l4]
      refine sb_ap.2 ⟨sb_fr y4 (fun j u v => by rw [l4] at v; rw [z5 j (by omega)]), ?_⟩
      rw [l4]
      exact y5
    · unfold q_aF
      simp [q_4b]
    · unfold q_aF
      simp [q_4b]
      omega
  · intro q
    rw [if_neg (by simp (disch := omega) only [i_2000, iN_a, iN_c, iN_le, iN_lt, iN_eq, iN_i]; exact q)]
theorem r_feed {fu : Nat} {st dcs tot frm siz : Nat → Int32} {tpd : Int32} {F K : List (List UInt8)} {T : List UInt8} (hf : 10 ≤ fu) (h : q_rs2 st dcs tot frm siz tpd F K T) (a c d e f : Int32) :
    (T.length + 20 ≤ 2000 → ∃ st', tw_MO_feed fu tpd st a c d e f = some (iN (T.length + 20), iN (T.length + 20), st') ∧ q_rs2 st' dcs tot frm siz (iN (T.length + 20)) F K (q_aF T a c d e f)) ∧ (¬ T.length + 20 ≤ 2000 → tw_MO_feed fu tpd st a c d e f = some (-1, tpd, st)) := by
  obtain ⟨h1, h2, h3, h4, h5⟩ := h
  unfold tw_MO_feed
  rw [h4, show iN T.length + 20 = iN (T.length + 20) from iN_a _ 20]
  constructor
  · intro q
    obtain ⟨b1, x1, y1, z1⟩ := r_tk (fu := fu) (t := T.length) (st := st) (x := a) (by omega) hf
    obtain ⟨b2, x2, y2, z2⟩ := r_tk (fu := fu) (t := T.length + 4) (st := b1) (x := c) (by omega) hf
    obtain ⟨b3, x3, y3, z3⟩ := r_tk (fu := fu) (t := T.length + 4 + 4) (st := b2) (x := d) (by omega) hf
    obtain ⟨b4, x4, y4, z4⟩ := r_tk (fu := fu) (t := T.length + 4 + 4 + 4) (st := b3) (x := e) (by omega) hf
    obtain ⟨b5, x5, y5, z5⟩ := r_tk (fu := fu) (t := T.length + 4 + 4 + 4 + 4) (st := b4) (x := f) (by omega) hf
    rw [if_pos (by simp (disch := omega) only [i_2000, iN_a, iN_c, iN_le, iN_lt, iN_eq, iN_i]; exact q), x1, obs2, x2, obs2, x3, obs2, x4, obs2, x5, obs2]
    have fr : ∀ j, j < 132400 + T.length ∨ 132400 + T.length + 20 ≤ j → b5 j = st j := by
      intro j hj
      rw [z5 j (by omega), z4 j (by omega), z3 j (by omega), z2 j (by omega), z1 j (by omega)]
    have l4 : ∀ x, (q_4b x).length = 4 := fun _ => rfl
    refine ⟨b5, rfl, ?_⟩
    have g1 := h1.2.2.2.2.2.1
    have g2 := h2.2.2.2.2.2.1
    refine ⟨q_rbf h1 (fun j u v => fr j (by omega)), q_rbf h2 (fun j u v => fr j (by omega)), ?_, ?_, ?_⟩
    · unfold q_aF
      refine sm_ap.2 ⟨sm_fr h3 (fun j u v => fr j (by omega)), ?_⟩
      refine sm_ap.2 ⟨sm_fr y1 (fun j u v => by rw [l4] at v; rw [z5 j (by omega), z4 j (by omega), z3 j (by omega), z2 j (by omega)]), ?_⟩
      rw [l4]
      refine sm_ap.2 ⟨sm_fr y2 (fun j u v => by rw [l4] at v; rw [z5 j (by omega), z4 j (by omega), z3 j (by omega)]), ?_⟩
      rw [l4]
      refine sm_ap.2 ⟨sm_fr y3 (fun j u v => by rw [l4] at v; rw [z5 j (by omega), z4 j (by omega)]), ?_⟩
      rw [l4]
      refine sm_ap.2 ⟨sm_fr y4 (fun j u v => by rw [l4] at v; rw [z5 j (by omega)]), ?_⟩
      rw [l4]
      exact y5
    · unfold q_aF
      simp [q_4b]
    · unfold q_aF
      simp [q_4b]
      omega
  · intro q
    rw [if_neg (by simp (disch := omega) only [i_2000, iN_a, iN_c, iN_le, iN_lt, iN_eq, iN_i]; exact q)]
/-- swap: in the class the belts change their places -/
theorem c_swap {b : Nat → UInt8} {fb kb nb : Nat} {fcnt kcnt onT : Int32} {fsts ksts : Nat → Int32} {F K : List (List UInt8)} {T : List UInt8} (h : q_cs b fb kb nb fcnt fsts kcnt ksts onT F K T) : q_cs b kb fb nb kcnt ksts fcnt fsts onT K F T := by
  obtain ⟨h1, h2, h3, h4, h5, h6, h7, h8, h9, h10⟩ := h
  exact ⟨h2, h1, h3, h4, h5, h6, h7, by omega, by omega, by omega⟩
theorem r_sw1 {fu : Nat} {K : Int32 → (Nat → Int32) → (Nat → Int32) → (Nat → Int32) → (Nat → Int32) → (Nat → Int32) → Option ((Nat → Int32) × (Nat → Int32) × (Nat → Int32) × (Nat → Int32) × (Nat → Int32))} {dcs tot frm siz st0 : Nat → Int32} :
    ∀ (m i n : Nat) (st : Nat → Int32), i + m = 40000 → m < n → (∀ j, st j = if j < i then st0 (j + 40000) else if 40000 ≤ j ∧ j < 40000 + i then st0 (j - 40000) else st0 j) →
    ∃ st', tw_MO_swap_h2 fu K n (iN i) st dcs tot frm siz = K (iN 40000) st' dcs tot frm siz ∧ ∀ j, st' j = if j < 40000 then st0 (j + 40000) else if j < 80000 then st0 (j - 40000) else st0 j := by
  intro m
  induction m with
  | zero =>
    intro i n st hi hn hs
    obtain ⟨n, rfl⟩ : ∃ m, n = m + 1 := ⟨n - 1, by omega⟩
    have : i = 40000 := by omega
    subst this
    unfold tw_MO_swap_h2
    rw [if_pos (show (40000 : Int32) ≤ iN 40000 from Int32.le_refl _)]
    refine ⟨st, rfl, fun j => ?_⟩
    rw [hs j]
    by_cases c : j < 40000
    · rw [if_pos c, if_pos c]
    · rw [if_neg c, if_neg c]
      by_cases c2 : j < 80000
      · rw [if_pos c2, if_pos (by omega)]
      · rw [if_neg c2, if_neg (by omega)]
  | succ m ih =>
    intro i n st hi hn hs
    obtain ⟨n, rfl⟩ : ∃ m, n = m + 1 := ⟨n - 1, by omega⟩
    unfold tw_MO_swap_h2
    rw [if_neg (by simp (disch := omega) only [i_40000, iN_a, iN_c, iN_le, iN_lt, iN_eq, iN_i]; omega), if_pos (by simp (disch := omega) only [i_0, i_136400, iN_a, iN_c, iN_le, iN_lt, iN_eq, iN_i]; omega), show (40000 : Int32) + iN i = iN (40000 + i) from iN_a 40000 i, if_pos (by simp (disch := omega) only [i_0, i_136400, iN_a, iN_c, iN_le, iN_lt, iN_eq, iN_i]; omega), iN_c (by omega), iN_c (by omega), show iN i + 1 = iN (i + 1) from iN_a i 1]
    refine ih (i + 1) n _ (by omega) (by omega) (fun j => ?_)
    show (if j = 40000 + i then st i else if j = i then st (40000 + i) else st j) = _
    rw [hs i, hs (40000 + i), hs j]
    by_cases e1 : j = 40000 + i
    · rw [if_pos e1, if_neg (by omega), if_neg (by omega), if_neg (by omega), if_pos (by omega)]
      exact congrArg st0 (by omega)
    · rw [if_neg e1]
      by_cases e2 : j = i
      · rw [if_pos e2, if_neg (by omega), if_neg (by omega), if_pos (by omega)]
        exact congrArg st0 (by omega)
      · rw [if_neg e2]
        by_cases c : j < i
        · rw [if_pos c, if_pos (by omega)]
        · rw [if_neg c, if_neg (show ¬ j < i + 1 by omega)]
          by_cases c2 : 40000 ≤ j ∧ j < 40000 + i
          · rw [if_pos c2, if_pos (by omega)]
          · rw [if_neg c2, if_neg (by omega)]
theorem r_sw2 {fu : Nat} {K : Int32 → (Nat → Int32) → (Nat → Int32) → (Nat → Int32) → (Nat → Int32) → (Nat → Int32) → Option ((Nat → Int32) × (Nat → Int32) × (Nat → Int32) × (Nat → Int32) × (Nat → Int32))} {dcs tot st frm0 siz0 : Nat → Int32} :
    ∀ (m i n : Nat) (frm siz : Nat → Int32), i + m = 200 → m < n → (∀ j, frm j = if j < i then frm0 (j + 200) - 40000 else if 200 ≤ j ∧ j < 200 + i then frm0 (j - 200) + 40000 else frm0 j) → (∀ j, siz j = if j < i then siz0 (j + 200) else if 200 ≤ j ∧ j < 200 + i then siz0 (j - 200) else siz0 j) →
    ∃ frm' siz', tw_MO_swap_h48 fu K n (iN i) st dcs tot frm siz = K (iN 200) st dcs tot frm' siz' ∧ (∀ j, j < 200 → frm' j = frm0 (j + 200) - 40000 ∧ siz' j = siz0 (j + 200)) ∧ (∀ j, j < 200 → frm' (200 + j) = frm0 j + 40000 ∧ siz' (200 + j) = siz0 j) := by
  intro m
  induction m with
  | zero =>
    intro i n frm siz hi hn hs hs2
    obtain ⟨n, rfl⟩ : ∃ m, n = m + 1 := ⟨n - 1, by omega⟩
    have : i = 200 := by omega
    subst this
    unfold tw_MO_swap_h48
    rw [if_pos (show (200 : Int32) ≤ iN 200 from Int32.le_refl _)]
    refine ⟨frm, siz, rfl, fun j hj => ?_, fun j hj => ?_⟩
    · rw [hs j, hs2 j, if_pos hj, if_pos hj]
      exact ⟨rfl, rfl⟩
    · refine ⟨?_, ?_⟩
      · rw [hs (200 + j), if_neg (show ¬ 200 + j < 200 by omega), if_pos (show 200 ≤ 200 + j ∧ 200 + j < 200 + 200 by omega), show 200 + j - 200 = j by omega]
      · rw [hs2 (200 + j), if_neg (show ¬ 200 + j < 200 by omega), if_pos (show 200 ≤ 200 + j ∧ 200 + j < 200 + 200 by omega), show 200 + j - 200 = j by omega]
  | succ m ih =>
    intro i n frm siz hi hn hs hs2
    obtain ⟨n, rfl⟩ : ∃ m, n = m + 1 := ⟨n - 1, by omega⟩
    unfold tw_MO_swap_h48
    rw [if_neg (by simp (disch := omega) only [i_200, iN_a, iN_c, iN_le, iN_lt, iN_eq, iN_i]; omega), if_pos (by simp (disch := omega) only [i_0, i_400, iN_a, iN_c, iN_le, iN_lt, iN_eq, iN_i]; omega), show (200 : Int32) + iN i = iN (200 + i) from iN_a 200 i, if_pos (by simp (disch := omega) only [i_0, i_400, iN_a, iN_c, iN_le, iN_lt, iN_eq, iN_i]; omega), iN_c (by omega), iN_c (by omega), show iN i + 1 = iN (i + 1) from iN_a i 1]
    refine ih (i + 1) n _ _ (by omega) (by omega) (fun j => ?_) (fun j => ?_)
    · show (if j = 200 + i then frm i + 40000 else if j = i then frm (200 + i) - 40000 else frm j) = _
      rw [hs i, hs (200 + i), hs j]
      by_cases e1 : j = 200 + i
      · rw [if_pos e1, if_neg (by omega), if_neg (by omega), if_neg (by omega), if_pos (by omega), show j - 200 = i by omega]
      · rw [if_neg e1]
        by_cases e2 : j = i
        · rw [if_pos e2, if_neg (by omega), if_neg (by omega), if_pos (by omega), show j + 200 = 200 + i by omega]
        · rw [if_neg e2]
          by_cases c : j < i
          · rw [if_pos c, if_pos (by omega)]
          · rw [if_neg c, if_neg (show ¬ j < i + 1 by omega)]
            by_cases c2 : 200 ≤ j ∧ j < 200 + i
            · rw [if_pos c2, if_pos (by omega)]
            · rw [if_neg c2, if_neg (by omega)]
    · show (if j = 200 + i then siz i else if j = i then siz (200 + i) else siz j) = _
      rw [hs2 i, hs2 (200 + i), hs2 j]
      by_cases e1 : j = 200 + i
      · rw [if_pos e1, if_neg (by omega), if_neg (by omega), if_neg (by omega), if_pos (by omega), show j - 200 = i by omega]
      · rw [if_neg e1]
        by_cases e2 : j = i
        · rw [if_pos e2, if_neg (by omega), if_neg (by omega), if_pos (by omega), show j + 200 = 200 + i by omega]
        · rw [if_neg e2]
          by_cases c : j < i
          · rw [if_pos c, if_pos (by omega)]
          · rw [if_neg c, if_neg (show ¬ j < i + 1 by omega)]
            by_cases c2 : 200 ≤ j ∧ j < 200 + i
            · rw [if_pos c2, if_pos (by omega)]
            · rw [if_neg c2, if_neg (by omega)]
theorem r_swap {fu : Nat} {st dcs tot frm siz : Nat → Int32} {tpd : Int32} {F K : List (List UInt8)} {T : List UInt8} (hf : 50000 ≤ fu) (h : q_rs2 st dcs tot frm siz tpd F K T) :
    ∃ st' dc to fr sz, tw_MO_swap fu st dcs tot frm siz = some (st', dc, to, fr, sz) ∧ q_rs2 st' dc to fr sz tpd K F T := by
  obtain ⟨h1, h2, h3, h4, h5⟩ := h
  obtain ⟨⟨a1, a2, a3, a4, a5⟩, ⟨b1, b2, b3, b4, b5⟩⟩ := And.intro h1 h2
  unfold tw_MO_swap
  rw [i_0]
  obtain ⟨st', s1, s2⟩ := r_sw1 (fu := fu) (K := fun (x1_4 : Int32) (st_4 : Nat → Int32) (dcs_4 : Nat → Int32) (tot_4 : Nat → Int32) (frm_4 : Nat → Int32) (siz_4 : Nat → Int32) => tw_MO_swap_h48 fu (fun (x1_8 : Int32) (st_8 : Nat → Int32) (dcs_8 : Nat → Int32) (tot_8 : Nat → Int32) (frm_8 : Nat → Int32) (siz_8 : Nat → Int32) =>
      some (st_8, upd (upd dcs_8 (iN 0).toNatClampNeg (dcs_8 (1 : Int32).toNatClampNeg)) (1 : Int32).toNatClampNeg (dcs_8 (iN 0).toNatClampNeg), upd (upd tot_8 (iN 0).toNatClampNeg (tot_8 (1 : Int32).toNatClampNeg)) (1 : Int32).toNatClampNeg (tot_8 (iN 0).toNatClampNeg), frm_8, siz_8)) fu (iN 0) st_4 dcs_4 tot_4 frm_4 siz_4) (dcs := dcs) (tot := tot) (frm := frm) (siz := siz) (st0 := st) 40000 0 fu st (by omega) (by omega) (fun j => by rw [if_neg (by omega), if_neg (by omega)])
  obtain ⟨fr, sz, t1, t2, t3⟩ := r_sw2 (fu := fu) (K := fun (x1_8 : Int32) (st_8 : Nat → Int32) (dcs_8 : Nat → Int32) (tot_8 : Nat → Int32) (frm_8 : Nat → Int32) (siz_8 : Nat → Int32) =>
      some (st_8, upd (upd dcs_8 (iN 0).toNatClampNeg (dcs_8 (1 : Int32).toNatClampNeg)) (1 : Int32).toNatClampNeg (dcs_8 (iN 0).toNatClampNeg), upd (upd tot_8 (iN 0).toNatClampNeg (tot_8 (1 : Int32).toNatClampNeg)) (1 : Int32).toNatClampNeg (tot_8 (iN 0).toNatClampNeg), frm_8, siz_8)) (dcs := dcs) (tot := tot) (st := st') (frm0 := frm) (siz0 := siz) 200 0 fu frm siz (by omega) (by omega) (fun j => by rw [if_neg (by omega), if_neg (by omega)]) (fun j => by rw [if_neg (by omega), if_neg (by omega)])
  refine ⟨st', _, _, fr, sz, s1.trans t1, ?_⟩
  have i0 : (iN 0).toNatClampNeg = 0 := rfl
  have i1 : (1 : Int32).toNatClampNeg = 1 := rfl
  rw [i0, i1]
  refine ⟨⟨?_, ?_, ?_, ?_, b5⟩, ⟨?_, ?_, ?_, ?_, a5⟩, ?_, h4, h5⟩
  · exact b1
  · exact b2
  · intro i d hd
    have il : i < K.length := (List.getElem?_eq_some_iff.1 hd).1
    have := b5.1
    obtain ⟨u1, u2⟩ := b3 i d hd
    obtain ⟨v1, v2⟩ := t2 i (by omega)
    rw [show 200 * 0 + i = i by omega, v1, v2, show i + 200 = 200 * 1 + i by omega, u1, u2]
    refine ⟨?_, rfl⟩
    rw [i_40000, iN_s (by omega)]
    exact congrArg iN (by omega)
  · have := b5.2.1
    refine sm_of (fun i hi => ?_)
    rw [s2, if_pos (by omega), show 40000 * 0 + i + 40000 = 40000 * 1 + i by omega, sm_g b4 hi]
  · exact a1
  · exact a2
  · intro i d hd
    have il : i < F.length := (List.getElem?_eq_some_iff.1 hd).1
    have := a5.1
    obtain ⟨u1, u2⟩ := a3 i d hd
    obtain ⟨v1, v2⟩ := t3 i (by omega)
    rw [show 200 * 1 + i = 200 + i by omega, v1, v2]
    rw [show 200 * 0 + i = i by omega] at u1 u2
    rw [u1, u2, i_40000, iN_a]
    exact ⟨congrArg iN (by omega), rfl⟩
  · have := a5.2.1
    refine sm_of (fun i hi => ?_)
    rw [s2, if_neg (by omega), if_pos (by omega), show 40000 * 1 + i - 40000 = 40000 * 0 + i by omega, sm_g a4 hi]
  · exact sm_fr h3 (fun j u v => by rw [s2, if_neg (by omega), if_neg (by omega)])
