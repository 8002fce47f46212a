/-! the pure part: put -/
theorem c_isd {b : Nat → UInt8} {w : List UInt8} (h : sb b 0 w) (hl : w.length ≤ 2000) : tw_CH_isDocument b (iN w.length) = q_kb 16 false w := by
  have := q_nst (b := b) 16 1 0 false w rfl h (by omega)
  unfold tw_CH_isDocument tw_CH_nest1
  rw [Nat.zero_add] at this
  rw [show (0 : Int32) + iN w.length = iN w.length from (iN_a 0 w.length).trans (by rw [Nat.zero_add])]
  exact this
theorem r_isd {fu : Nat} {st : Nat → Int32} {w : List UInt8} (hf : 2500 ≤ fu) (h : sm st 132400 w) (hl : w.length ≤ 2000) : tw_MO_isDocument fu st (iN w.length) = some (q_kb 16 false w) := by
  unfold tw_MO_isDocument
  by_cases c1 : w.length ≤ 4
  · rw [if_pos (by simp (disch := omega) only [i_4, iN_a, iN_c, iN_le, iN_lt, iN_eq, iN_i]; omega)]
    have : q_kb 16 false w = false := by
      show (decide (5 ≤ w.length ∧ q_nv (w.take 4) = w.length) && _) = false
      rw [decide_eq_false (by omega)]
      rfl
    rw [this]
  rw [if_neg (by simp (disch := omega) only [i_4, iN_a, iN_c, iN_le, iN_lt, iN_eq, iN_i]; omega)]
  have e4 : tw_MO_whole fu st (iN 132400) = some (iN (q_nv (w.take 4))) := by
    match w, c1, h with
    | a :: c :: d :: e :: r, _, h =>
      obtain ⟨h0, h1, h2, h3, _⟩ := h
      rw [r_wh4 h0 h1 h2 h3 (by omega), ← q_nv4]
      rfl
    | [], c, _ => exact absurd c (by simp)
    | [_], c, _ => exact absurd c (by simp)
    | [_, _], c, _ => exact absurd c (by simp)
    | [_, _, _], c, _ => exact absurd c (by simp)
  have lt4 : q_nv (w.take 4) < 4294967296 := by
    have := q_nvl (w.take 4)
    have e : 256 ^ (w.take 4).length ≤ 256 ^ 4 := Nat.pow_le_pow_right (by omega) (by rw [List.length_take]; omega)
    have : (256 : Nat) ^ 4 = 4294967296 := rfl
    omega
  rw [show (132400 : Int32) = iN 132400 from rfl, e4, obs1]
  by_cases c2 : q_nv (w.take 4) = w.length
  · rw [c2, if_pos rfl, iN_a, show (0 : Int32) = b2i false from rfl, show (1 : Int32) = iN 1 from rfl]
    unfold tw_MO_bx0
    rw [r_bx hf 18 16 1 132400 false w rfl (by omega) h (by omega) hl, obs1]
    have e : (q_kn (q_kb 16) false w).isSome = q_kb 16 false w := by
      unfold q_kn
      rw [c2, List.take_length]
      by_cases k : q_kb 16 false w = true
      · rw [if_pos ⟨by omega, by omega, Nat.le_refl _, k⟩, k]
        rfl
      · rw [if_neg (fun z => k z.2.2.2)]
        cases hq : q_kb 16 false w
        · rfl
        · exact absurd hq k
    rw [e]
    cases q_kb 16 false w
    · rfl
    · rfl
  · have ne : ¬ iN (q_nv (w.take 4)) = iN w.length := by
      intro q
      by_cases c3 : q_nv (w.take 4) < 2147483648
      · exact c2 ((iN_eq c3 (by omega)).1 q)
      · have n1 := iN_neg (a := q_nv (w.take 4)) (by omega) lt4
        rw [q] at n1
        exact absurd (q_p0 (a := w.length) (by omega)) (Int32.not_le.2 n1)
    rw [if_neg ne]
    have : q_kb 16 false w = false := by
      show (decide (5 ≤ w.length ∧ q_nv (w.take 4) = w.length) && _) = false
      rw [decide_eq_false (fun z => c2 z.2)]
      rfl
    rw [this]
def q_aP (F : List (List UInt8)) (T : List UInt8) (n : Int32) : Int32 × List (List UInt8) × List UInt8 :=
  if n < 0 then (-2, F, T)
  else if n.toNatClampNeg ≤ T.length then
    if q_kb 16 false (T.take n.toNatClampNeg) = true then
      if q_room F (T.take n.toNatClampNeg) = true then (iN (F.length + 1), F ++ [T.take n.toNatClampNeg], []) else (-3, F, [])
    else (-1, F, [])
  else (-2, F, T)
theorem c_put1 {b : Nat → UInt8} {base : Nat} {cnt place limit onT : Int32} {full : Bool} {sts : Nat → Int32} {F : List (List UInt8)} {T : List UInt8} {Z : Type} {G : Int32 → Int32 → Int32 → Int32 → Bool → (Nat → UInt8) → Int32 → (Nat → Int32) → Z} (h : q_be b base cnt sts F) (hT : sb b 0 T) (hl : T.length ≤ 2000) (ho : onT = iN T.length) (n : Int32) :
    ∃ on pl li fl b' c' s', (if n < 0 then G (-2) onT place limit full b cnt sts
      else if n ≤ onT then
        if (b2i (tw_CH_isDocument b n)) = 0 then G (-1) 0 place limit full b cnt sts
        else
          tp7 (tw_BS_append (iN base) place limit full b cnt sts 0 n) (fun r_5 place_5 limit_5 full_5 b_5 ecnt_5 ests_5 =>
            if (b2i r_5) = 0 then G (-3) 0 place_5 limit_5 full_5 b_5 ecnt_5 ests_5
            else G ecnt_5 0 place_5 limit_5 full_5 b_5 ecnt_5 ests_5)
      else G (-2) onT place limit full b cnt sts) = G (q_aP F T n).1 on pl li fl b' c' s' ∧ q_be b' base c' s' (q_aP F T n).2.1 ∧ (∀ j, j < base ∨ base + 40000 ≤ j → b' j = b j) ∧ on = iN (q_aP F T n).2.2.length ∧ (q_aP F T n).2.2.length ≤ 2000 ∧ sb b' 0 (q_aP F T n).2.2 := by
  unfold q_aP
  by_cases c0 : n < 0
  · rw [if_pos c0, if_pos c0]
    exact ⟨_, _, _, _, _, _, _, rfl, h, fun _ _ => rfl, ho, hl, hT⟩
  rw [if_neg c0, if_neg c0]
  obtain ⟨e, l⟩ := q_nn c0
  generalize n.toNatClampNeg = m at e l
  subst e
  by_cases c1 : m ≤ T.length
  rotate_left
  · rw [if_neg (by rw [ho, iN_le l (by omega)]; exact c1), if_neg c1]
    exact ⟨_, _, _, _, _, _, _, rfl, h, fun _ _ => rfl, ho, hl, hT⟩
  rw [if_pos (by rw [ho, iN_le l (by omega)]; exact c1), if_pos c1]
  have hw := sb_tk (n := m) hT
  have wl : (T.take m).length = m := by
    rw [List.length_take]
    omega
  generalize T.take m = w at hw wl
  subst wl
  rw [c_isd hw (by omega)]
  have g1 := h.2.2.2.2.2
  cases k : q_kb 16 false w
  · rw [if_pos (show b2i false = 0 from rfl), if_neg (by decide)]
    exact ⟨_, _, _, _, _, _, _, rfl, h, fun _ _ => rfl, rfl, Nat.zero_le _, trivial⟩
  · rw [if_neg (show ¬ b2i true = 0 by decide), if_pos rfl]
    have ok := q_kbok 16 false w k
    obtain ⟨p', l', f', b', a1, a2, a3⟩ := c_app (place := place) (limit := limit) (full := full) h hw (by omega) (Or.inl (by omega)) ok (by omega)
    rw [show (0 : Int32) = iN 0 from rfl]
    cases rm : q_room F w
    · obtain ⟨a4, a5⟩ := a3 rm
      rw [a4, if_neg (by decide)]
      exact ⟨_, _, _, _, _, _, _, rfl, a5, fun j hj => a1 j (by omega), rfl, Nat.zero_le _, trivial⟩
    · obtain ⟨c', s', a4, a5⟩ := a2 rm
      rw [a4, if_pos rfl]
      refine ⟨0, p', l', f', b', c', s', ?_, a5, fun j hj => a1 j (by omega), rfl, Nat.zero_le _, trivial⟩
      have ec := a5.1
      rw [List.length_append] at ec
      show G c' _ _ _ _ _ _ _ = _
      rw [ec]
      rfl
def q_aPr (F K : List (List UInt8)) (T : List UInt8) (p n : Int32) : Int32 × List (List UInt8) × List (List UInt8) × List UInt8 :=
  if p = 0 then ((q_aP F T n).1, (q_aP F T n).2.1, K, (q_aP F T n).2.2)
  else if p = 1 then ((q_aP K T n).1, F, (q_aP K T n).2.1, (q_aP K T n).2.2)
  else (-2, F, K, T)
theorem c_put {b : Nat → UInt8} {fb kb nb : Nat} {fcnt kcnt onT place limit : Int32} {full : Bool} {fsts ksts : Nat → Int32} {F K : List (List UInt8)} {T : List UInt8} (h : q_cs b fb kb nb fcnt fsts kcnt ksts onT F K T) (p n : Int32) :
    ∃ on pl li fl b' fc fs kc ks, tw_PB_put (iN fb) (iN kb) onT place limit full b fcnt fsts kcnt ksts p n = ((q_aPr F K T p n).1, on, pl, li, fl, b', fc, fs, kc, ks) ∧ q_cs b' fb kb nb fc fs kc ks on (q_aPr F K T p n).2.1 (q_aPr F K T p n).2.2.1 (q_aPr F K T p n).2.2.2 := by
  obtain ⟨h1, h2, h3, h4, h5, h6⟩ := h
  have w1 := h1.2.2.2.1.2.1
  have w2 := h2.2.2.2.1.2.1
  unfold tw_PB_put q_aPr
  by_cases p0 : p = 0
  · rw [if_pos p0, if_pos p0]
    obtain ⟨on, pl, li, fl, b', c', s', e, u1, u2, u3, u4, u5⟩ := c_put1 (place := place) (limit := limit) (full := full) (G := fun r on pl li fl b c s => (r, on, pl, li, fl, b, c, s, kcnt, ksts)) h1 h3 h5 h4 n
    have hk : q_be b' kb kcnt ksts K := q_bef h2 (fun j v w => u2 j (by omega))
    exact ⟨on, pl, li, fl, b', c', s', kcnt, ksts, e, u1, hk, u5, u3, u4, h6⟩
  rw [if_neg p0, if_neg p0]
  by_cases p1 : p = 1
  · rw [if_pos p1, if_pos p1]
    obtain ⟨on, pl, li, fl, b', c', s', e, u1, u2, u3, u4, u5⟩ := c_put1 (place := place) (limit := limit) (full := full) (G := fun r on pl li fl b c s => (r, on, pl, li, fl, b, fcnt, fsts, c, s)) h2 h3 h5 h4 n
    have hk : q_be b' fb fcnt fsts F := q_bef h1 (fun j v w => u2 j (by omega))
    exact ⟨on, pl, li, fl, b', fcnt, fsts, c', s', e, hk, u1, u5, u3, u4, h6⟩
  · rw [if_neg p1, if_neg p1]
    exact ⟨_, _, _, _, _, _, _, _, _, rfl, h1, h2, h3, h4, h5, h6⟩
theorem r_pcp {fu x a : Nat} {p0 tpd : Int32} {dcs tot frm siz : Nat → Int32} {K : Int32 → Int32 → (Nat → Int32) → (Nat → Int32) → (Nat → Int32) → (Nat → Int32) → (Nat → Int32) → Option (Int32 × Int32 × (Nat → Int32) × (Nat → Int32) × (Nat → Int32) × (Nat → Int32) × (Nat → Int32))} (hx : x < 400) (hfr : frm x = iN a) :
    ∀ (r : List UInt8) (i n : Nat) (st : Nat → Int32), sm st (132400 + i) r → r.length < n → i + r.length ≤ 2000 → a + i + r.length ≤ 80000 →
    ∃ st', tw_MO_put_h107 fu K p0 (iN (i + r.length)) (iN x) n (iN i) tpd st dcs tot frm siz = K (iN (i + r.length)) tpd st' dcs tot frm siz ∧ sm st' (a + i) r ∧ (∀ j, j < a + i ∨ a + i + r.length ≤ j → st' j = st j) := by
  intro r
  induction r with
  | nil =>
    intro i n st h hn h2 h3
    obtain ⟨n, rfl⟩ : ∃ m, n = m + 1 := ⟨n - 1, by simp at hn; omega⟩
    unfold tw_MO_put_h107
    rw [if_pos (show iN (i + [].length) ≤ iN i from Int32.le_refl _)]
    exact ⟨st, rfl, trivial, fun _ _ => rfl⟩
  | cons y r ih =>
    intro i n st h hn h2 h3
    rw [List.length_cons] at hn h2 h3
    obtain ⟨n, rfl⟩ : ∃ m, n = m + 1 := ⟨n - 1, by omega⟩
    obtain ⟨h0, h1⟩ := h
    unfold tw_MO_put_h107
    rw [List.length_cons, if_neg (by simp (disch := omega) only [iN_a, iN_c, iN_le, iN_lt, iN_eq, iN_i]; omega), if_pos (by simp (disch := omega) only [i_0, i_400, iN_a, iN_c, iN_le, iN_lt, iN_eq, iN_i]; omega), show (132400 : Int32) + iN i = iN (132400 + i) from iN_a 132400 i, if_pos (by simp (disch := omega) only [i_0, i_136400, iN_a, iN_c, iN_le, iN_lt, iN_eq, iN_i]; omega), iN_c (a := x) (by omega), hfr, iN_a a i, if_pos (by simp (disch := omega) only [i_0, i_136400, iN_a, iN_c, iN_le, iN_lt, iN_eq, iN_i]; omega), iN_c (by omega), iN_c (by omega), show iN i + 1 = iN (i + 1) from iN_a i 1, h0, show i + (r.length + 1) = i + 1 + r.length by omega]
    obtain ⟨st', e1, e2, e3⟩ := ih (i + 1) n (upd st (a + i) (iN y.toNat)) (sm_fr h1 (fun j u v => by show (if j = a + i then _ else st j) = _; rw [if_neg (by omega)])) (by omega) (by omega) (by omega)
    refine ⟨st', e1, ⟨?_, e2⟩, fun j hj => ?_⟩
    · rw [e3 _ (by omega)]
      show (if a + i = a + i then _ else _) = _
      rw [if_pos rfl]
    · rw [e3 j (by omega)]
      show (if j = a + i then _ else st j) = _
      rw [if_neg (by omega)]
theorem q_upe {f : Nat → Int32} {u : Nat} {x : Int32} : upd f u x u = x := by
  show (if u = u then x else f u) = x
  rw [if_pos rfl]
theorem q_upn {f : Nat → Int32} {u v : Nat} {x : Int32} (h : v ≠ u) : upd f u x v = f v := by
  show (if v = u then x else f v) = f v
  rw [if_neg h]
/-- a document behind the others of belt w -/
theorem q_rba {st st' : Nat → Int32} {w : Nat} {dcs tot frm siz : Nat → Int32} {F : List (List UInt8)} {d : List UInt8} (h : q_rb st w dcs tot frm siz F) (hd : sm st' (40000 * w + F.flatten.length) d) (ho : q_ok 16 3 d) (hl : d.length ≤ 2000) (hr : q_room F d = true) (hf : ∀ j, 40000 * w ≤ j → j < 40000 * w + F.flatten.length → st' j = st j) :
    q_rb st' w (upd dcs w (iN (F.length + 1))) (upd tot w (iN (F.flatten.length + d.length))) (upd frm (200 * w + F.length) (iN (40000 * w + F.flatten.length))) (upd siz (200 * w + F.length) (iN d.length)) (F ++ [d]) := by
  unfold q_room at hr
  rw [decide_eq_true_eq] at hr
  obtain ⟨h1, h2, h3, h4, h51, h52, h53⟩ := h
  have fl := q_fla F d
  refine ⟨?_, ?_, ?_, ?_, ?_, ?_, ?_⟩
  · rw [q_upe, List.length_append]
    rfl
  · rw [q_upe, fl, List.length_append]
  · intro i e hi
    have il := (List.getElem?_eq_some_iff.1 hi).1
    rw [List.length_append, List.length_singleton] at il
    by_cases c : i = F.length
    · subst c
      rw [List.getElem?_append_right (Nat.le_refl _), Nat.sub_self] at hi
      have : d = e := by simpa using hi
      subst this
      rw [q_upe, q_upe, q_pfa (Nat.le_refl _), q_pfn]
      exact ⟨rfl, rfl⟩
    · rw [List.getElem?_append_left (by omega)] at hi
      rw [q_upn (by omega), q_upn (by omega), q_pfa (by omega)]
      exact h3 i e hi
  · rw [fl]
    exact sm_ap.2 ⟨sm_fr h4 hf, hd⟩
  · rw [List.length_append, List.length_singleton]
    omega
  · rw [fl, List.length_append]
    omega
  · intro x hx
    rcases List.mem_append.1 hx with hx | hx
    · exact h53 x hx
    · rw [List.mem_singleton.1 hx]
      exact ⟨ho, hl⟩
theorem q_rbv {st : Nat → Int32} {w u : Nat} {dcs tot frm siz : Nat → Int32} {x y z t : Int32} {i : Nat} {F : List (List UInt8)} (hu : w ≠ u) (hi : i < 200) (h : q_rb st w dcs tot frm siz F) : q_rb st w (upd dcs u x) (upd tot u y) (upd frm (200 * u + i) z) (upd siz (200 * u + i) t) F := by
  obtain ⟨h1, h2, h3, h4, h5⟩ := h
  refine ⟨?_, ?_, ?_, h4, h5⟩
  · rw [q_upn hu]
    exact h1
  · rw [q_upn hu]
    exact h2
  · intro j d hd
    have jl := (List.getElem?_eq_some_iff.1 hd).1
    have := h5.1
    rw [q_upn (by omega), q_upn (by omega)]
    exact h3 j d hd
theorem r_put1 {fu w : Nat} {st dcs tot frm siz : Nat → Int32} {tpd : Int32} {F : List (List UInt8)} {T : List UInt8} (hf : 2500 ≤ fu) (hw : w < 2) (h : q_rb st w dcs tot frm siz F) (hT : sm st 132400 T) (hl : T.length ≤ 2000) (ho : tpd = iN T.length) (n : Int32) :
    ∃ tp st' dc to fr sz, tw_MO_put fu tpd st dcs tot frm siz (iN w) n = some ((q_aP F T n).1, tp, st', dc, to, fr, sz) ∧ q_rb st' w dc to fr sz (q_aP F T n).2.1 ∧ tp = iN (q_aP F T n).2.2.length ∧ (q_aP F T n).2.2.length ≤ 2000 ∧ sm st' 132400 (q_aP F T n).2.2 ∧ (∀ u K, u ≠ w → u < 2 → q_rb st u dcs tot frm siz K → q_rb st' u dc to fr sz K) := by
  unfold tw_MO_put q_aP
  rw [if_neg (by simp (disch := omega) only [i_0, iN_a, iN_c, iN_le, iN_lt, iN_eq, iN_i]; omega), if_neg (by simp (disch := omega) only [i_1, iN_a, iN_c, iN_le, iN_lt, iN_eq, iN_i]; omega)]
  by_cases c0 : n < 0
  · rw [if_pos c0, if_pos c0]
    exact ⟨_, _, _, _, _, _, rfl, h, ho, hl, hT, fun _ _ _ _ q => q⟩
  rw [if_neg c0, if_neg c0]
  obtain ⟨e, l⟩ := q_nn c0
  generalize n.toNatClampNeg = m at e l
  subst e
  by_cases c1 : m ≤ T.length
  rotate_left
  · rw [if_neg (by rw [ho, iN_le l (by omega)]; exact c1), if_neg c1]
    exact ⟨_, _, _, _, _, _, rfl, h, ho, hl, hT, fun _ _ _ _ q => q⟩
  rw [if_pos (by rw [ho, iN_le l (by omega)]; exact c1), if_pos c1]
  have hd := sm_tk m hT
  have wl : (T.take m).length = m := by
    rw [List.length_take]
    omega
  generalize T.take m = d at hd wl
  subst wl
  rw [r_isd hf hd (by omega), obs1]
  cases k : q_kb 16 false d
  · rw [if_pos (show b2i false = 0 from rfl), if_neg (by decide)]
    exact ⟨_, _, _, _, _, _, rfl, h, rfl, Nat.zero_le _, trivial, fun _ _ _ _ q => q⟩
  rw [if_neg (show ¬ b2i true = 0 by decide), if_pos rfl, if_pos (by simp (disch := omega) only [i_0, i_2, iN_a, iN_c, iN_le, iN_lt, iN_eq, iN_i]; omega), iN_c (by omega)]
  have ok := q_kbok 16 false d k
  have h' := h
  obtain ⟨h1, h2, h3, h4, h51, h52, h53⟩ := h'
  rw [h1, h2]
  cases rm : q_room F d
  · have nr : ¬ (F.length < 200 ∧ F.flatten.length + d.length ≤ 40000) := by
      unfold q_room at rm
      rwa [decide_eq_false_iff_not] at rm
    rw [if_neg (show ¬ false = true by decide)]
    by_cases c : F.length = 200
    · rw [if_pos (by rw [c]; rfl)]
      exact ⟨_, _, _, _, _, _, rfl, h, rfl, Nat.zero_le _, trivial, fun _ _ _ _ q => q⟩
    · rw [if_neg (by simp (disch := omega) only [i_200, iN_a, iN_c, iN_le, iN_lt, iN_eq, iN_i]; omega), iN_a, if_neg (by simp (disch := omega) only [i_40000, iN_a, iN_c, iN_le, iN_lt, iN_eq, iN_i]; omega)]
      exact ⟨_, _, _, _, _, _, rfl, h, rfl, Nat.zero_le _, trivial, fun _ _ _ _ q => q⟩
  · have nr : F.length < 200 ∧ F.flatten.length + d.length ≤ 40000 := by
      have := rm
      unfold q_room at this
      rwa [decide_eq_true_eq] at this
    rw [if_neg (by simp (disch := omega) only [i_200, iN_a, iN_c, iN_le, iN_lt, iN_eq, iN_i]; omega), iN_a F.flatten.length, if_pos (by simp (disch := omega) only [i_40000, iN_a, iN_c, iN_le, iN_lt, iN_eq, iN_i]; omega), show (200 : Int32) = iN 200 from rfl, show (40000 : Int32) = iN 40000 from rfl, iN_m, iN_m, iN_a, iN_a, if_pos (by simp (disch := omega) only [i_0, i_400, iN_a, iN_c, iN_le, iN_lt, iN_eq, iN_i]; omega), iN_c (by omega), if_pos rfl]
    obtain ⟨st', e1, e2, e3⟩ := r_pcp (fu := fu) (x := 200 * w + F.length) (a := 40000 * w + F.flatten.length) (p0 := iN w) (tpd := 0) (dcs := dcs) (tot := tot) (frm := upd frm (200 * w + F.length) (iN (40000 * w + F.flatten.length))) (siz := upd siz (200 * w + F.length) (iN d.length)) (K := fun (x4_15 : Int32) (tpd_15 : Int32) (st_15 : Nat → Int32) (dcs_15 : Nat → Int32) (tot_15 : Nat → Int32) (frm_15 : Nat → Int32) (siz_15 : Nat → Int32) =>
                    some ((upd dcs_15 w ((dcs_15 w) + 1)) w, tpd_15, st_15, upd dcs_15 w ((dcs_15 w) + 1), upd tot_15 w ((tot_15 w) + iN d.length), frm_15, siz_15)) (by omega) q_upe d 0 fu st hd (by omega) (by omega) (by omega)
    rw [Nat.zero_add] at e1
    rw [show (0 : Int32) = iN 0 from rfl] at e1 ⊢
    refine ⟨iN 0, st', upd dcs w (iN (F.length + 1)), upd tot w (iN (F.flatten.length + d.length)), upd frm (200 * w + F.length) (iN (40000 * w + F.flatten.length)), upd siz (200 * w + F.length) (iN d.length), e1.trans ?_, ?_, rfl, Nat.zero_le _, trivial, ?_⟩
    rotate_left
    · exact q_rba h e2 ok (by omega) rm (fun j u v => e3 j (by omega))
    · intro u K hu hu2 hK
      exact q_rbv hu (by omega) (q_rbf hK (fun j a c => e3 j (by have := hK.2.2.2.2.2.1; omega)))
    · rw [q_upe, h1, h2, iN_a, show iN F.length + 1 = iN (F.length + 1) from iN_a F.length 1]
theorem r_put {fu : Nat} {st dcs tot frm siz : Nat → Int32} {tpd : Int32} {F K : List (List UInt8)} {T : List UInt8} (hf : 2500 ≤ fu) (h : q_rs2 st dcs tot frm siz tpd F K T) (p n : Int32) :
    ∃ tp st' dc to fr sz, tw_MO_put fu tpd st dcs tot frm siz p n = some ((q_aPr F K T p n).1, tp, st', dc, to, fr, sz) ∧ q_rs2 st' dc to fr sz tp (q_aPr F K T p n).2.1 (q_aPr F K T p n).2.2.1 (q_aPr F K T p n).2.2.2 := by
  obtain ⟨h1, h2, h3, h4, h5⟩ := h
  unfold q_aPr
  by_cases p0 : p = 0
  · rw [if_pos p0, p0]
    obtain ⟨tp, st', dc, to, fr, sz, e, u1, u2, u3, u4, u5⟩ := r_put1 (w := 0) hf (by omega) h1 h3 h5 h4 n
    exact ⟨tp, st', dc, to, fr, sz, e, u1, u5 1 K (by omega) (by omega) h2, u4, u2, u3⟩
  rw [if_neg p0]
  by_cases p1 : p = 1
  · rw [if_pos p1, p1]
    obtain ⟨tp, st', dc, to, fr, sz, e, u1, u2, u3, u4, u5⟩ := r_put1 (w := 1) hf (by omega) h2 h3 h5 h4 n
    exact ⟨tp, st', dc, to, fr, sz, e, u5 0 F (by omega) (by omega) h1, u1, u4, u2, u3⟩
  · rw [if_neg p1]
    refine ⟨tpd, st, dcs, tot, frm, siz, ?_, h1, h2, h3, h4, h5⟩
    unfold tw_MO_put
    rcases q_01c p0 p1 with q | q
    · rw [if_pos q]
    · rw [if_neg (fun z => Int32.lt_asymm z (Int32.lt_trans (by decide) q)), if_pos q]
