/-! the pure part: $lookup; the class gathers and matches -/
abbrev q_L13 : Type := Int32 × Int32 × Int32 × Int32 × Bool × (Nat → Int32) × (Nat → Int32) × (Nat → Int32) × (Nat → Int32) × (Nat → Int32) × (Nat → Int32) × (Nat → Int32) × (Nat → Int32)
theorem q_ov0 (z : q_V) : q_ov2 20 z z = 0 := q_POr (q_ovp 20) z
theorem c_68 {kb d : Nat} {b : Nat → UInt8} {kbase kcnt pcnt plc psr pbs : Int32} {pms : Bool} {ksts pst pen pix plv psn fow : Nat → Int32} {C : Int32 → Int32 → Int32 → Int32 → Int32 → Bool → (Nat → Int32) → (Nat → Int32) → (Nat → Int32) → (Nat → Int32) → (Nat → Int32) → (Nat → Int32) → (Nat → Int32) → (Nat → Int32) → q_L13} {ws : List q_V} (hd : d < 200) (hw : tw_FI_leavesToTake plc = iN ws.length) (hwl : ws.length ≤ 2000) (hv : ∀ i z, ws[i]? = some z → q_kg kb 0 0 b (tw_FI_leafToTake plc plv (iN i)) z) :
    ∀ (m i n : Nat) (EE : q_E) (fict : Int32) (fch fnx flv fhs fdo : Nat → Int32), i + m = ws.length → m < n → EE.length + m ≤ 13533 → q_FE kb b EE fict fch fnx flv fhs fdo →
    ∃ f1 f2 f3 f4 f5 f6 EE', tw_FI_gather_h68 kbase kcnt ksts b pcnt pst pen pix C (iN d) n (iN i) fict plc psr pbs pms plv psn fch fnx flv fhs fdo fow = C (iN ws.length) f1 plc psr pbs pms plv psn f2 f3 f4 f5 f6 fow ∧ q_FE kb b EE' f1 f2 f3 f4 f5 f6 ∧ EE'.length ≤ EE.length + m ∧ (∀ y ∈ EE, y ∈ EE') ∧ (∀ y ∈ EE', y ∈ EE ∨ (y.2 = d ∧ y.1 ∈ ws)) ∧ (∀ j z, ws[j]? = some z → i ≤ j → ∃ y ∈ EE', y.2 = d ∧ q_ov2 20 z y.1 = 0) := by
  intro m
  induction m with
  | zero =>
    intro i n EE fict fch fnx flv fhs fdo hi hn hc h
    obtain ⟨n, rfl⟩ : ∃ m, n = m + 1 := ⟨n - 1, by omega⟩
    have : i = ws.length := by omega
    subst this
    unfold tw_FI_gather_h68
    rw [hw, if_pos (Int32.le_refl _)]
    refine ⟨_, _, _, _, _, _, EE, rfl, h, Nat.le_refl _, fun y hy => hy, fun y hy => Or.inl hy, fun j z hj hji => ?_⟩
    have := (List.getElem?_eq_some_iff.1 hj).1
    omega
  | succ m ih =>
    intro i n EE fict fch fnx flv fhs fdo hi hn hc h
    obtain ⟨n, rfl⟩ : ∃ m, n = m + 1 := ⟨n - 1, by omega⟩
    have il : i < ws.length := by omega
    have e := List.getElem?_eq_getElem il
    obtain ⟨f1, f2, f3, f4, f5, f6, EE1, r1, r2, r3⟩ := c_rem h (by omega) (hv i _ e) hd
    have len : EE1.length ≤ EE.length + 1 ∧ (∀ y ∈ EE, y ∈ EE1) ∧ (∀ y ∈ EE1, y ∈ EE ∨ (y.2 = d ∧ y.1 ∈ ws)) ∧ (∃ y ∈ EE1, y.2 = d ∧ q_ov2 20 ws[i] y.1 = 0) := by
      rcases r3 with ⟨rfl, r4⟩ | rfl
      · exact ⟨by omega, fun y hy => hy, fun y hy => Or.inl hy, r4⟩
      · refine ⟨by rw [List.length_append, List.length_singleton]; exact Nat.le_refl _, fun y hy => List.mem_append_left _ hy, fun y hy => ?_, (ws[i], d), by simp, rfl, q_ov0 _⟩
        rcases List.mem_append.1 hy with q | q
        · exact Or.inl q
        · rw [List.mem_singleton.1 q]
          exact Or.inr ⟨rfl, List.getElem_mem il⟩
    obtain ⟨l1, l2, l3, y0, l4, l5, l6⟩ := len
    unfold tw_FI_gather_h68
    rw [hw, if_neg (by simp (disch := omega) only [iN_a, iN_c, iN_le, iN_lt, iN_eq, iN_i]; omega), r1, q_tp6]
    try dsimp only
    obtain ⟨g1, g2, g3, g4, g5, g6, EE2, t1, t2, t3, t4, t5, t6⟩ := ih (i + 1) n EE1 f1 f2 f3 f4 f5 f6 (by omega) (by omega) (by omega) r2
    rw [show iN i + 1 = iN (i + 1) from iN_a i 1]
    refine ⟨g1, g2, g3, g4, g5, g6, EE2, t1, t2, by omega, fun y hy => t4 y (l2 y hy), fun y hy => ?_, fun j z hj hji => ?_⟩
    · rcases t5 y hy with q | q
      · exact l3 y q
      · exact Or.inr q
    · by_cases c : j = i
      · subst c
        rw [e] at hj
        cases hj
        exact ⟨y0, t4 y0 l4, l5, l6⟩
      · exact t6 j z hj (by omega)
def q_FC (EE : q_E) (ys : List (List UInt8)) (B : List (List UInt8)) (i : Nat) : Prop := (∀ y ∈ EE, y.2 < i ∧ y.1 ∈ q_lvw (q_lE ys (B.getD y.2 []))) ∧ (∀ d, d < i → ∀ w ∈ q_lvw (q_lE ys (B.getD d [])), ∃ y ∈ EE, y.2 = d ∧ q_ov2 20 w y.1 = 0)
theorem c_23 {kb : Nat} {b : Nat → UInt8} {kcnt : Int32} {ksts pst pen pix fow : Nat → Int32} {B ys : List (List UInt8)} (hb : q_be b kb kcnt ksts B) (hx : ∀ x ∈ ys, q_gs x) (hx0 : ys ≠ []) (hx8 : ys.length ≤ 8) (hpa : q_pa b pst pen pix ys) :
    ∀ (m i n r : Nat) (EE : q_E) (fict plc pbs : Int32) (pms : Bool) (plv psn fch fnx flv fhs fdo : Nat → Int32), i + m = B.length → m < n → r + m < 2000000000 → q_psn psn r → 3 * EE.length ≤ q_pf B i + 3 * i → q_FE kb b EE fict fch fnx flv fhs fdo → q_FC EE ys B i →
    ∃ f1 plc' pbs' pms' plv' psn' f2 f3 f4 f5 f6 EE', tw_FI_gather_h23 (iN kb) kcnt ksts b (iN ys.length) pst pen pix n (iN i) fict plc (iN r) pbs pms plv psn fch fnx flv fhs fdo fow = (f1, plc', iN (r + m), pbs', pms', plv', psn', f2, f3, f4, f5, f6, fow) ∧ q_psn psn' (r + m) ∧ EE'.length ≤ 13533 ∧ q_FE kb b EE' f1 f2 f3 f4 f5 f6 ∧ q_FC EE' ys B B.length := by
  have F1 := hb.2.2.2.1.1
  have F2 := hb.2.2.2.1.2.1
  have F5 := hb.2.2.2.2.1
  intro m
  induction m with
  | zero =>
    intro i n r EE fict plc pbs pms plv psn fch fnx flv fhs fdo hi hn hr hs hc h hF
    obtain ⟨n, rfl⟩ : ∃ m, n = m + 1 := ⟨n - 1, by omega⟩
    have : i = B.length := by omega
    subst this
    have := q_pfl B B.length
    unfold tw_FI_gather_h23
    rw [if_pos (by rw [hb.1]; exact Int32.le_refl _)]
    exact ⟨_, _, _, _, _, _, _, _, _, _, _, EE, rfl, hs, by omega, h, hF⟩
  | succ m ih =>
    intro i n r EE fict plc pbs pms plv psn fch fnx flv fhs fdo hi hn hr hs hc h hF
    obtain ⟨n, rfl⟩ : ∃ m, n = m + 1 := ⟨n - 1, by omega⟩
    have il : i < B.length := by omega
    have hk : B[i]? = some B[i] := List.getElem?_eq_getElem il
    obtain ⟨d1, d2, d3, d4⟩ := q_bed hb hk
    have pfs := q_pfs hk
    have pfl := q_pfl B (i + 1)
    have gd := q_gdd hk
    have l0 := q_okl0 d2 (Or.inl rfl)
    have l5 : 5 ≤ B[i].length := by
      obtain ⟨e, ps, _, ee, _⟩ := q_okd d2 (Or.inl rfl)
      rw [ee, q_bxl]
      omega
    obtain ⟨le1, le2, le3⟩ := q_lEf d2 (by omega) d3 hx hx0
    obtain ⟨plv', psn', pms', e1, e2, e3⟩ := q_fl (psr := iN r) (plc := plc) (pbs := pbs) (pms := pms) (plv := plv) (psn := psn) (by omega) hx hx0 hx8 hpa d2 (by omega) d1 d3 (by
      intro o ho q
      obtain ⟨s, s1, s2⟩ := hs o ho
      rw [s2, show iN r + 1 = iN (r + 1) from iN_a r 1, iN_eq (by omega) (by omega)] at q
      omega)
    rw [show iN r + 1 = iN (r + 1) from iN_a r 1] at e1 e3
    have hs' : q_psn psn' (r + 1) := by
      intro o ho
      rcases e3 o ho with q | q
      · exact ⟨r + 1, Nat.le_refl _, q⟩
      · obtain ⟨s, s1, s2⟩ := hs o ho
        exact ⟨s, by omega, q.trans s2⟩
    have ref : tw_ST_ref 3 (tw_BE_start (iN kb) kcnt ksts (iN i)) = iN (32 * (kb + q_pf B i) + 3) := by
      rw [q_bes hb (by omega)]
      exact q_rff (k := 3) (by omega) (by omega)
    have ll := q_lwl (q_lE ys B[i])
    have lt := c_ltt (n := (q_lE ys B[i]).length) (by omega)
    rw [← ll] at lt
    have lft := c_lft (fb := kb) (plv := plv') d2 d3 d1 (by omega) (by omega) F5 hx hx0 e2
    have wl : 3 * (q_lvw (q_lE ys B[i])).length ≤ B[i].length + 3 := by
      rw [ll]
      split <;> omega
    have H := fun C => c_68 (kb := kb) (d := i) (b := b) (kbase := iN kb) (kcnt := kcnt) (pcnt := iN ys.length) (plc := iN (q_lE ys B[i]).length) (psr := iN (r + 1)) (pbs := iN (kb + q_pf B i)) (pms := pms') (ksts := ksts) (pst := pst) (pen := pen) (pix := pix) (plv := plv') (psn := psn') (fow := fow) (C := C) (ws := q_lvw (q_lE ys B[i])) (by omega) lt (by omega) lft (q_lvw (q_lE ys B[i])).length 0 ((((tw_FI_leavesToTake (iN (q_lE ys B[i]).length)).toInt - (0 : Int32).toInt).toNat) + 1) EE fict fch fnx flv fhs fdo (by omega) (by rw [lt, iN_i (by omega)]; show _ < (((q_lvw (q_lE ys B[i])).length : Nat) - (0 : Int)).toNat + 1; omega) (by omega) h
    unfold tw_FI_gather_h23
    rw [if_neg (by rw [hb.1]; simp (disch := omega) only [iN_a, iN_c, iN_le, iN_lt, iN_eq, iN_i]; omega), if_neg (by simp (disch := omega) only [i_200, iN_a, iN_c, iN_le, iN_lt, iN_eq, iN_i]; omega), ref, e1, q_tp6]
    try dsimp only
    obtain ⟨g1, g2, g3, g4, g5, g6, EE1, t1, t2, t3, t4, t5, t6⟩ := H _
    rw [show iN 0 = (0 : Int32) from rfl] at t1
    rw [t1]
    try dsimp only
    rw [show iN i + 1 = iN (i + 1) from iN_a i 1, show r + (m + 1) = r + 1 + m by omega]
    refine ih (i + 1) n (r + 1) EE1 g1 _ _ _ _ _ _ _ _ _ _ (by omega) (by omega) (by omega) hs' (by omega) t2 ⟨fun y hy => ?_, fun d hd w hw => ?_⟩
    · rcases t5 y hy with q | ⟨q1, q2⟩
      · obtain ⟨a1, a2⟩ := hF.1 y q
        exact ⟨by omega, a2⟩
      · rw [q1, gd]
        exact ⟨by omega, q2⟩
    · by_cases c : d = i
      · subst c
        rw [gd] at hw
        obtain ⟨j, hj⟩ := List.mem_iff_getElem?.1 hw
        exact t6 j w hj (by omega)
      · obtain ⟨y, y1, y2, y3⟩ := hF.2 d (by omega) w hw
        exact ⟨y, t4 y y1, y2, y3⟩
theorem c_fl1 {p1 : Int32} {L : Nat} (hL : L < 2147483648) : ∀ (m i n : Nat) (f : Nat → Int32), i + m = L → m < n → ∀ c, tw_JA_fill1024_h5 p1 (iN L) n (iN i) f c = if i ≤ c ∧ c < L then p1 else f c := by
  intro m
  induction m with
  | zero =>
    intro i n f hi hn c
    obtain ⟨n, rfl⟩ : ∃ m, n = m + 1 := ⟨n - 1, by omega⟩
    have : i = L := by omega
    subst this
    unfold tw_JA_fill1024_h5
    rw [if_pos (Int32.le_refl _), if_neg (by omega)]
  | succ m ih =>
    intro i n f hi hn c
    obtain ⟨n, rfl⟩ : ∃ m, n = m + 1 := ⟨n - 1, by omega⟩
    unfold tw_JA_fill1024_h5
    rw [if_neg (by simp (disch := omega) only [iN_a, iN_c, iN_le, iN_lt, iN_eq, iN_i]; omega), iN_c (by omega), show iN i + 1 = iN (i + 1) from iN_a i 1, ih (i + 1) n _ (by omega) (by omega) c]
    by_cases h1 : i + 1 ≤ c ∧ c < L
    · rw [if_pos h1, if_pos (by omega)]
    · rw [if_neg h1]
      by_cases h2 : c = i
      · subst h2
        rw [q_upe, if_pos (by omega)]
      · rw [q_upn h2, if_neg (by omega)]
theorem c_fl2 {p1 : Int32} {L : Nat} (hL : L < 2147483648) : ∀ (m i n : Nat) (f : Nat → Int32), i + m = L → m < n → ∀ c, tw_JA_fill200_h5 p1 (iN L) n (iN i) f c = if i ≤ c ∧ c < L then p1 else f c := by
  intro m
  induction m with
  | zero =>
    intro i n f hi hn c
    obtain ⟨n, rfl⟩ : ∃ m, n = m + 1 := ⟨n - 1, by omega⟩
    have : i = L := by omega
    subst this
    unfold tw_JA_fill200_h5
    rw [if_pos (Int32.le_refl _), if_neg (by omega)]
  | succ m ih =>
    intro i n f hi hn c
    obtain ⟨n, rfl⟩ : ∃ m, n = m + 1 := ⟨n - 1, by omega⟩
    unfold tw_JA_fill200_h5
    rw [if_neg (by simp (disch := omega) only [iN_a, iN_c, iN_le, iN_lt, iN_eq, iN_i]; omega), iN_c (by omega), show iN i + 1 = iN (i + 1) from iN_a i 1, ih (i + 1) n _ (by omega) (by omega) c]
    by_cases h1 : i + 1 ≤ c ∧ c < L
    · rw [if_pos h1, if_pos (by omega)]
    · rw [if_neg h1]
      by_cases h2 : c = i
      · subst h2
        rw [q_upe, if_pos (by omega)]
      · rw [q_upn h2, if_neg (by omega)]
theorem c_gt {kb r : Nat} {b : Nat → UInt8} {kcnt fict plc pbs : Int32} {pms : Bool} {ksts pst pen pix plv psn fch fnx flv fhs fdo fow : Nat → Int32} {B ys : List (List UInt8)} (hb : q_be b kb kcnt ksts B) (hx : ∀ x ∈ ys, q_gs x) (hx0 : ys ≠ []) (hx8 : ys.length ≤ 8) (hpa : q_pa b pst pen pix ys) (hr : r + 200 < 2000000000) (hs : q_psn psn r) :
    ∃ f1 plc' r' pbs' pms' plv' psn' f2 f3 f4 f5 f6 fow' EE, tw_FI_gather (iN kb) kcnt ksts b (iN ys.length) pst pen pix fict plc (iN r) pbs pms plv psn fch fnx flv fhs fdo fow = (f1, plc', iN r', pbs', pms', plv', psn', f2, f3, f4, f5, f6, fow') ∧ r' ≤ r + 200 ∧ q_psn psn' r' ∧ EE.length ≤ 13533 ∧ q_FE kb b EE f1 f2 f3 f4 f5 f6 ∧ q_FC EE ys B B.length ∧ (∀ d, d < 200 → fow' d = -1) := by
  have F1 := hb.2.2.2.1.1
  unfold tw_FI_gather tw_JA_fill1024 tw_JA_fill200
  rw [q_tp1, q_tp1]
  try dsimp only
  generalize hn1 : ((1024 : Int32).toInt - (0 : Int32).toInt).toNat + 1 = n1
  have hn1' : n1 = 1025 := by rw [← hn1]; decide
  generalize hn2 : ((200 : Int32).toInt - (0 : Int32).toInt).toNat + 1 = n2
  have hn2' : n2 = 201 := by rw [← hn2]; decide
  have A1 := c_fl1 (p1 := -1) (L := 1024) (by omega) 1024 0 n1 fch (by omega) (by omega)
  have A2 := c_fl2 (p1 := -1) (L := 200) (by omega) 200 0 n2 fow (by omega) (by omega)
  change ∀ c, tw_JA_fill1024_h5 (-1) 1024 n1 0 fch c = _ at A1
  change ∀ c, tw_JA_fill200_h5 (-1) 200 n2 0 fow c = _ at A2
  generalize tw_JA_fill1024_h5 (-1) 1024 n1 0 fch = fch1 at *
  generalize tw_JA_fill200_h5 (-1) 200 n2 0 fow = fow1 at *
  obtain ⟨f1, a2, a3, a4, a5, a6, f2, f3, f4, f5, f6, EE, t1, t2, t3, t4, t5⟩ := c_23 (fow := fow1) hb hx hx0 hx8 hpa B.length 0 n2 r [] 0 plc pbs pms plv psn fch1 fnx flv fhs fdo (by omega) (by omega) (by omega) hs (Nat.zero_le _) ⟨rfl, (fun e y q => by cases q), fun c hc => by rw [A1 c, if_pos (by omega)]; rfl⟩ ⟨(fun y q => by cases q), fun d q => absurd q (by omega)⟩
  rw [show iN 0 = (0 : Int32) from rfl] at t1
  exact ⟨f1, a2, r + B.length, a3, a4, a5, a6, f2, f3, f4, f5, f6, fow1, EE, t1, by omega, t2, t3, t4, t5, fun d hd => by rw [A2 d, if_pos (by omega)]⟩
theorem c_mt_h {kb : Nat} {b : Nat → UInt8} {EE : q_E} {fict x p1 : Int32} {fch fnx flv fhs fdo : Nat → Int32} {z : q_V} (h : q_FE kb b EE fict fch fnx flv fhs fdo) (hl : EE.length ≤ 13533) (hx : q_kr b x z) :
    ∀ (m n i : Nat) (fow : Nat → Int32), m ≤ EE.length → i + m ≤ EE.length → m < n → ∃ fow', tw_FI_match_h24 fict b fch fnx flv fhs fdo x p1 (q_hs 20 z.1 z.2) n (q_lst (q_pc EE (q_cN z)) m) (iN i) fow = fow' ∧ (∀ d, (∃ e y, e < m ∧ EE[e]? = some y ∧ y.2 = d ∧ q_ov2 20 z y.1 = 0) → fow' d = p1) ∧ (∀ d, ¬ (∃ e y, e < m ∧ EE[e]? = some y ∧ y.2 = d ∧ q_ov2 20 z y.1 = 0) → fow' d = fow d) := by
  obtain ⟨h1, h2, h3⟩ := h
  have zo : q_oz 16 z.1 z.2 ∧ z.2.length ≤ 2000 := by
    obtain ⟨P, _, a1, _, _, a4⟩ := hx
    exact ⟨a1, a4⟩
  have sameh : ∀ (y : q_V × Nat) (e : Nat), EE[e]? = some y → q_ov2 20 z y.1 = 0 → q_hs 20 z.1 z.2 = q_hs 20 y.1.1 y.1.2 := by
    intro y e hy hov
    obtain ⟨P, _, a1, _, a3, _⟩ := (h2 e y hy).1
    exact q_hse 16 20 20 _ _ _ _ zo.1 (Or.inl a1) (by omega) (by omega) (by omega) (by omega) hov
  intro m
  induction m with
  | zero =>
    intro n i fow hm hi hn
    obtain ⟨n, rfl⟩ : ∃ m, n = m + 1 := ⟨n - 1, by omega⟩
    refine ⟨fow, ?_, fun d q => ?_, fun _ _ => rfl⟩
    · unfold tw_FI_match_h24
      rw [if_pos (show q_lst (q_pc EE (q_cN z)) 0 < 0 by show (-1 : Int32) < 0; decide), ite_self]
    · obtain ⟨e, _, q, _⟩ := q
      omega
  | succ m ih =>
    intro n i fow hm hi hn
    have ml : m < EE.length := by omega
    have em := List.getElem?_eq_getElem ml
    obtain ⟨a1, a2, a3, a4, a5⟩ := h2 m _ em
    by_cases c : q_pc EE (q_cN z) m = true
    rotate_left
    · have e0 : q_lst (q_pc EE (q_cN z)) (m + 1) = q_lst (q_pc EE (q_cN z)) m := if_neg c
      rw [e0]
      have nov : q_ov2 20 z EE[m].1 ≠ 0 := by
        intro q
        have hh := sameh _ m em q
        apply c
        unfold q_pc
        rw [em]
        apply decide_eq_true
        unfold q_cN
        rw [hh]
      obtain ⟨fow', t1, t2, t3⟩ := ih n i fow (by omega) (by omega) (by omega)
      refine ⟨fow', t1, fun d q => ?_, fun d q => ?_⟩
      · obtain ⟨e, y, e1, e2, e3, e4⟩ := q
        by_cases ce : e = m
        · subst ce
          rw [em] at e2
          cases e2
          exact absurd e4 nov
        · exact t2 d ⟨e, y, by omega, e2, e3, e4⟩
      · refine t3 d (fun ⟨e, y, e1, e2, e3, e4⟩ => q ⟨e, y, by omega, e2, e3, e4⟩)
    · have e0 : q_lst (q_pc EE (q_cN z)) (m + 1) = iN m := if_pos c
      have cm : q_cN EE[m].1 = q_cN z := by
        unfold q_pc at c
        rw [em] at c
        exact of_decide_eq_true c
      rw [cm] at a5
      rw [e0]
      obtain ⟨n, rfl⟩ : ∃ m, n = m + 1 := ⟨n - 1, by omega⟩
      have key : ∀ fow1 : Nat → Int32, (∀ d, (EE[m].2 = d ∧ q_ov2 20 z EE[m].1 = 0) → fow1 d = p1) → (∀ d, ¬ (EE[m].2 = d ∧ q_ov2 20 z EE[m].1 = 0) → fow1 d = fow d) → ∃ fow', tw_FI_match_h24 fict b fch fnx flv fhs fdo x p1 (q_hs 20 z.1 z.2) n (fnx m) (iN i + 1) fow1 = fow' ∧ (∀ d, (∃ e y, e < m + 1 ∧ EE[e]? = some y ∧ y.2 = d ∧ q_ov2 20 z y.1 = 0) → fow' d = p1) ∧ (∀ d, ¬ (∃ e y, e < m + 1 ∧ EE[e]? = some y ∧ y.2 = d ∧ q_ov2 20 z y.1 = 0) → fow' d = fow d) := by
        intro fow1 k1 k2
        obtain ⟨fow', t1, t2, t3⟩ := ih n (i + 1) fow1 (by omega) (by omega) (by omega)
        rw [a5, show iN i + 1 = iN (i + 1) from iN_a i 1]
        refine ⟨fow', t1, fun d q => ?_, fun d q => ?_⟩
        · by_cases w : ∃ e y, e < m ∧ EE[e]? = some y ∧ y.2 = d ∧ q_ov2 20 z y.1 = 0
          · exact t2 d w
          · obtain ⟨e, y, e1, e2, e3, e4⟩ := q
            have ce : e = m := by
              by_cases ce : e = m
              · exact ce
              · exact absurd ⟨e, y, by omega, e2, e3, e4⟩ w
            subst ce
            rw [em] at e2
            cases e2
            rw [t3 d w]
            exact k1 d ⟨e3, e4⟩
        · rw [t3 d (fun ⟨e, y, e1, e2, e3, e4⟩ => q ⟨e, y, by omega, e2, e3, e4⟩)]
          exact k2 d (fun w => q ⟨m, _, by omega, em, w.1, w.2⟩)
      unfold tw_FI_match_h24
      rw [if_neg (by rw [h1]; simp (disch := omega) only [iN_a, iN_c, iN_le, iN_lt, iN_eq, iN_i]; omega), if_neg (by simp (disch := omega) only [i_0, iN_a, iN_c, iN_le, iN_lt, iN_eq, iN_i]; omega), if_neg (by rw [h1]; simp (disch := omega) only [iN_a, iN_c, iN_le, iN_lt, iN_eq, iN_i]; omega), iN_c (by omega), a2, a3, if_neg (show ¬ iN EE[m].2 < 0 by simp (disch := omega) only [i_0, iN_a, iN_c, iN_le, iN_lt, iN_eq, iN_i]; omega), if_neg (show ¬ (200 : Int32) ≤ iN EE[m].2 by simp (disch := omega) only [i_200, iN_a, iN_c, iN_le, iN_lt, iN_eq, iN_i]; omega), iN_c (show EE[m].2 < 2147483648 by omega), c_kr hx (q_kgr a1)]
      by_cases hh : q_hs 20 EE[m].1.1 EE[m].1.2 = q_hs 20 z.1 z.2
      · rw [if_pos hh]
        by_cases hp : fow EE[m].2 = p1
        · rw [if_pos hp]
          exact key fow (fun d q => by rw [← q.1]; exact hp) (fun _ _ => rfl)
        · rw [if_neg hp]
          by_cases ho : q_ov2 20 z EE[m].1 = 0
          · rw [if_pos ho]
            refine key _ (fun d q => by rw [← q.1, q_upe]) (fun d q => q_upn (fun w => q ⟨w.symm, ho⟩))
          · rw [if_neg ho]
            exact key fow (fun d q => absurd q.2 ho) (fun _ _ => rfl)
      · rw [if_neg hh]
        exact key fow (fun d q => absurd (sameh _ m em q.2).symm hh) (fun _ _ => rfl)
theorem c_mt {kb : Nat} {b : Nat → UInt8} {EE : q_E} {fict x p1 : Int32} {fch fnx flv fhs fdo fow : Nat → Int32} {z : q_V} (h : q_FE kb b EE fict fch fnx flv fhs fdo) (hl : EE.length ≤ 13533) (hx : q_kr b x z) :
    (∀ d, (∃ y ∈ EE, y.2 = d ∧ q_ov2 20 z y.1 = 0) → tw_FI_match fict b fch fnx flv fhs fdo fow x p1 d = p1) ∧ (∀ d, ¬ (∃ y ∈ EE, y.2 = d ∧ q_ov2 20 z y.1 = 0) → tw_FI_match fict b fch fnx flv fhs fdo fow x p1 d = fow d) := by
  have hh := c_hkr hx
  have hc := h.2.2 _ (q_cNl z)
  change fch (tw_FI_chainOf (q_hs 20 z.1 z.2)).toNatClampNeg = _ at hc
  obtain ⟨fow', t1, t2, t3⟩ := c_mt_h (p1 := p1) h hl hx EE.length (((fict.toInt - (0 : Int32).toInt).toNat) + 1) 0 fow (Nat.le_refl _) (by omega) (by rw [h.1, iN_i (by omega)]; show _ < ((EE.length : Nat) - (0 : Int)).toNat + 1; omega)
  rw [show iN 0 = (0 : Int32) from rfl] at t1
  have e : tw_FI_match fict b fch fnx flv fhs fdo fow x p1 = fow' := by
    unfold tw_FI_match
    rw [hh, hc]
    exact t1
  rw [e]
  refine ⟨fun d q => t2 d ?_, fun d q => t3 d (fun ⟨i, y, e1, e2, e3, e4⟩ => q ⟨y, List.mem_of_getElem? e2, e3, e4⟩)⟩
  obtain ⟨y, y1, y2, y3⟩ := q
  obtain ⟨i, hi⟩ := List.mem_iff_getElem?.1 y1
  exact ⟨i, y, (List.getElem?_eq_some_iff.1 hi).1, hi, y2, y3⟩
