/-! the pure part: finish -/
theorem r_f42 {fu x a y : Nat} {frs : Int32} {tgr : Bool} {dcs tot frm siz ffr fsz : Nat → Int32} {K : Int32 → (Nat → Int32) → (Nat → Int32) → (Nat → Int32) → (Nat → Int32) → (Nat → Int32) → Option (Int32 × (Nat → Int32) × (Nat → Int32) × (Nat → Int32) × (Nat → Int32) × (Nat → Int32))} (hx : x < 200) (hfr : ffr x = iN a) (h8 : 80000 ≤ a) :
    ∀ (r : List UInt8) (i n : Nat) (st : Nat → Int32), sm st (a + i) r → siz x = iN (i + r.length) → r.length < n → a + i + r.length ≤ 120000 → y + i + r.length ≤ 40000 →
    ∃ st', tw_MO_finish_h42 fu frs tgr ffr fsz K (iN y) (iN x) n (iN i) st dcs tot frm siz = K (iN (i + r.length)) st' dcs tot frm siz ∧ sm st' (y + i) r ∧ (∀ j, j < y + i ∨ y + i + r.length ≤ j → st' j = st j) := by
  intro r
  induction r with
  | nil =>
    intro i n st h hz hn h2 h3
    obtain ⟨n, rfl⟩ : ∃ m, n = m + 1 := ⟨n - 1, by simp at hn; omega⟩
    unfold tw_MO_finish_h42
    rw [if_pos (by simp (disch := omega) only [i_0, i_400, iN_a, iN_c, iN_le, iN_lt, iN_eq, iN_i]; omega), iN_c (by omega), hz, if_pos (show iN (i + [].length) ≤ iN i from Int32.le_refl _)]
    exact ⟨st, rfl, trivial, fun _ _ => rfl⟩
  | cons z r ih =>
    intro i n st h hz hn h2 h3
    rw [List.length_cons] at hz hn h2 h3
    obtain ⟨n, rfl⟩ : ∃ m, n = m + 1 := ⟨n - 1, by omega⟩
    obtain ⟨h0, h1⟩ := h
    unfold tw_MO_finish_h42
    rw [if_pos (by simp (disch := omega) only [i_0, i_400, iN_a, iN_c, iN_le, iN_lt, iN_eq, iN_i]; omega), iN_c (a := x) (by omega), hz, List.length_cons, if_neg (by simp (disch := omega) only [iN_a, iN_c, iN_le, iN_lt, iN_eq, iN_i]; omega), if_pos (by simp (disch := omega) only [i_0, i_200, iN_a, iN_c, iN_le, iN_lt, iN_eq, iN_i]; omega), hfr, iN_a a i, iN_a y i, if_pos (by simp (disch := omega) only [i_0, i_136400, iN_a, iN_c, iN_le, iN_lt, iN_eq, iN_i]; omega), if_pos (by simp (disch := omega) only [i_0, i_136400, iN_a, iN_c, iN_le, iN_lt, iN_eq, iN_i]; omega), iN_c (by omega), iN_c (by omega), show iN i + 1 = iN (i + 1) from iN_a i 1, h0, show i + (r.length + 1) = i + 1 + r.length by omega]
    obtain ⟨st', e1, e2, e3⟩ := ih (i + 1) n (upd st (y + i) (iN z.toNat)) (sm_fr h1 (fun j u v => q_upn (by omega))) (by rw [hz]; exact congrArg iN (by omega)) (by omega) (by omega) (by omega)
    refine ⟨st', e1, ⟨?_, e2⟩, fun j hj => ?_⟩
    · rw [e3 _ (by omega), q_upe]
    · rw [e3 j (by omega), q_upn (by omega)]
def q_fin (N : List (List UInt8)) (st0 frm0 siz0 st frm siz : Nat → Int32) : Prop :=
  (∀ i d, N[i]? = some d → frm i = iN (q_pf N i) ∧ siz i = iN d.length) ∧ sm st 0 N.flatten ∧ (∀ j, 40000 ≤ j → st j = st0 j) ∧ (∀ j, 200 ≤ j → frm j = frm0 j ∧ siz j = siz0 j)
theorem r_f13 {fu : Nat} {frs : Int32} {tgr : Bool} {dcs tot ffr fsz st0 frm0 siz0 : Nat → Int32} {K : Int32 → Int32 → (Nat → Int32) → (Nat → Int32) → (Nat → Int32) → (Nat → Int32) → (Nat → Int32) → Option (Int32 × (Nat → Int32) × (Nat → Int32) × (Nat → Int32) × (Nat → Int32) × (Nat → Int32))} {N : List (List UInt8)} (hN : q_FO N) (hff : ∀ i d, N[i]? = some d → ffr i = iN (80000 + q_pf N i) ∧ fsz i = iN d.length) (hs : sm st0 80000 N.flatten) (hfrs : frs = iN N.length) (hfu : 2500 ≤ fu) :
    ∀ (N2 N1 : List (List UInt8)) (n : Nat) (st frm siz : Nat → Int32), N = N1 ++ N2 → N2.length < n → q_fin N1 st0 frm0 siz0 st frm siz →
    ∃ st' frm' siz', tw_MO_finish_h13 fu frs tgr ffr fsz K n (iN N1.flatten.length) (iN N1.length) st dcs tot frm siz = K (iN N.flatten.length) (iN N.length) st' dcs tot frm' siz' ∧ q_fin N st0 frm0 siz0 st' frm' siz' := by
  intro N2
  induction N2 with
  | nil =>
    intro N1 n st frm siz e hn h
    obtain ⟨n, rfl⟩ : ∃ m, n = m + 1 := ⟨n - 1, by simp at hn; omega⟩
    rw [List.append_nil] at e
    subst e
    unfold tw_MO_finish_h13
    rw [hfrs, if_pos (Int32.le_refl _)]
    exact ⟨st, frm, siz, rfl, h⟩
  | cons d N2 ih =>
    intro N1 n st frm siz e hn h
    rw [List.length_cons] at hn
    obtain ⟨n, rfl⟩ : ∃ m, n = m + 1 := ⟨n - 1, by omega⟩
    have hi : N[N1.length]? = some d := by
      rw [e, List.getElem?_append_right (Nat.le_refl _), Nat.sub_self]
      rfl
    obtain ⟨f1, f2⟩ := hff _ _ hi
    have pf : q_pf N N1.length = N1.flatten.length := by
      unfold q_pf
      rw [e, List.take_left]
    have fl : N.flatten = N1.flatten ++ (d ++ N2.flatten) := by
      rw [e, List.flatten_append, List.flatten_cons]
    have ln : N.length = N1.length + (N2.length + 1) := by
      rw [e, List.length_append, List.length_cons]
    have lf : N.flatten.length = N1.flatten.length + (d.length + N2.flatten.length) := by
      rw [fl, List.length_append, List.length_append]
    obtain ⟨g1, g2, g3⟩ := hN
    obtain ⟨k1, k2, k3, k4⟩ := h
    rw [pf] at f1
    rw [fl] at hs
    have sd := (sm_ap.1 (sm_ap.1 hs).2).1
    have dm := (g3 d (List.mem_of_getElem? hi)).2
    unfold tw_MO_finish_h13
    rw [hfrs, if_neg (by simp (disch := omega) only [iN_a, iN_c, iN_le, iN_lt, iN_eq, iN_i]; omega), if_pos (by simp (disch := omega) only [i_0, i_400, iN_a, iN_c, iN_le, iN_lt, iN_eq, iN_i]; omega), if_pos (by simp (disch := omega) only [i_0, i_200, iN_a, iN_c, iN_le, iN_lt, iN_eq, iN_i]; omega), iN_c (by omega), f2]
    obtain ⟨st', e1, e2, e3⟩ := r_f42 (fu := fu) (x := N1.length) (a := 80000 + N1.flatten.length) (y := N1.flatten.length) (frs := iN N.length) (tgr := tgr) (dcs := dcs) (tot := tot) (frm := upd frm N1.length (iN N1.flatten.length)) (siz := upd siz N1.length (iN d.length)) (ffr := ffr) (fsz := fsz) (K := fun (x3_10 : Int32) (st_10 : Nat → Int32) (dcs_10 : Nat → Int32) (tot_10 : Nat → Int32) (frm_10 : Nat → Int32) (siz_10 : Nat → Int32) => tw_MO_finish_h13 fu (iN N.length) tgr ffr fsz K n (iN N1.flatten.length + (siz_10 N1.length)) (iN N1.length + 1) st_10 dcs_10 tot_10 frm_10 siz_10) (by omega) f1 (by omega) d 0 fu st (sm_fr sd (fun j u v => k3 j (by omega))) (by rw [q_upe, Nat.zero_add]) (by omega) (by omega) (by omega)
    have fa := q_fla N1 d
    have q := ih (N1 ++ [d]) n st' (upd frm N1.length (iN N1.flatten.length)) (upd siz N1.length (iN d.length)) (by rw [e, List.append_assoc]; rfl) (by omega) ⟨?_, ?_, ?_, ?_⟩
    · obtain ⟨s2, fr2, sz2, q1, q2⟩ := q
      rw [fa, List.length_append, List.length_append, List.length_singleton] at q1
      refine ⟨s2, fr2, sz2, ?_, q2⟩
      rw [show (0 : Int32) = iN 0 from rfl, e1]
      show tw_MO_finish_h13 fu (iN N.length) tgr ffr fsz K n (iN N1.flatten.length + upd siz N1.length (iN d.length) N1.length) (iN N1.length + 1) st' dcs tot _ _ = _
      rw [q_upe, iN_a, show iN N1.length + 1 = iN (N1.length + 1) from iN_a _ 1]
      rw [hfrs] at q1
      exact q1
    · intro i c hc
      have il := (List.getElem?_eq_some_iff.1 hc).1
      rw [List.length_append, List.length_singleton] at il
      by_cases cc : i = N1.length
      · subst cc
        rw [List.getElem?_append_right (Nat.le_refl _), Nat.sub_self] at hc
        have : d = c := by simpa using hc
        subst this
        rw [q_upe, q_upe, q_pfa (Nat.le_refl _), q_pfn]
        exact ⟨rfl, rfl⟩
      · rw [List.getElem?_append_left (by omega)] at hc
        rw [q_upn cc, q_upn cc, q_pfa (by omega)]
        exact k1 i c hc
    · rw [fa]
      refine sm_ap.2 ⟨sm_fr k2 (fun j u v => e3 j (by omega)), ?_⟩
      rw [Nat.zero_add]
      exact e2
    · intro j hj
      rw [e3 j (by omega)]
      exact k3 j hj
    · intro j hj
      rw [q_upn (by omega), q_upn (by omega)]
      exact k4 j hj
theorem r_fin {fu : Nat} {frs frt top : Int32} {tgr : Bool} {st dcs tot frm siz ffr fsz : Nat → Int32} {N : Option (List (List UInt8))} (hfu : 2500 ≤ fu) (h : q_fr st frs frt top tgr ffr fsz N) :
    ∃ st' dc to fr sz, tw_MO_finish fu frs tgr ffr fsz st dcs tot frm siz = some ((if N.isSome then 0 else 5), st', dc, to, fr, sz) ∧ (∀ j, 40000 ≤ j → st' j = st j) ∧ (∀ M, N = some M → q_rb st' 0 dc to fr sz M) ∧ (N = none → st' = st ∧ dc = dcs ∧ to = tot ∧ fr = frm ∧ sz = siz) ∧ (∀ K, q_rb st 1 dcs tot frm siz K → q_rb st' 1 dc to fr sz K) := by
  cases N with
  | none =>
    have tg : tgr = true := h
    subst tg
    refine ⟨st, dcs, tot, frm, siz, ?_, fun _ _ => rfl, (fun M e => by cases e), fun _ => ⟨rfl, rfl, rfl, rfl, rfl⟩, fun _ q => q⟩
    unfold tw_MO_finish
    rw [if_neg (by decide)]
    rfl
  | some N =>
    obtain ⟨h1, h2, h3, h4, h5, h6, h7⟩ := h
    subst h1
    obtain ⟨st', fr, sz, e1, e2, e3, e4, e5⟩ := r_f13 (fu := fu) (frs := frs) (tgr := false) (dcs := dcs) (tot := tot) (st0 := st) (frm0 := frm) (siz0 := siz) (K := fun (x1_11 : Int32) (x2_11 : Int32) (st_11 : Nat → Int32) (dcs_11 : Nat → Int32) (tot_11 : Nat → Int32) (frm_11 : Nat → Int32) (siz_11 : Nat → Int32) =>
        some (0, st_11, upd dcs_11 (0 : Int32).toNatClampNeg frs, upd tot_11 (0 : Int32).toNatClampNeg x1_11, frm_11, siz_11)) h7 h5 h6 h2 hfu N [] fu st frm siz rfl (by have := h7.1; omega) ⟨(fun i d h => by cases h), trivial, fun _ _ => rfl, fun _ _ => ⟨rfl, rfl⟩⟩
    refine ⟨st', upd dcs 0 frs, upd tot 0 (iN N.flatten.length), fr, sz, ?_, e4, ?_, (fun e => by cases e), ?_⟩
    · unfold tw_MO_finish
      rw [if_pos (show b2i false = 0 from rfl)]
      exact e1
    · intro M hM
      cases hM
      refine ⟨by rw [q_upe]; exact h2, by rw [q_upe], fun i d hd => ?_, ?_, h7⟩
      · simp only [Nat.mul_zero, Nat.zero_add]
        exact e2 i d hd
      · rw [Nat.mul_zero]
        exact e3
    · intro K hK
      obtain ⟨a1, a2, a3, a4, a5⟩ := hK
      refine ⟨by rw [q_upn (by omega)]; exact a1, by rw [q_upn (by omega)]; exact a2, fun i d hd => ?_, sm_fr a4 (fun j u v => e4 j (by omega)), a5⟩
      rw [(e5 _ (by omega)).1, (e5 _ (by omega)).2]
      exact a3 i d hd
