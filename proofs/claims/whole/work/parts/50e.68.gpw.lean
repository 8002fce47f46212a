/-! the pure part: the class writes a part of a group -/
theorem c_wr_h {L t fb T : Nat} {o : Bool} {b0 : Nat → UInt8} {gvl : Nat → Int32} {vs : List (Option q_V)} (hL : L ≤ 122000) (ht : 2000 ≤ t) (hdis : fb + 40000 ≤ t ∨ L ≤ fb) (hv : q_vr fb T b0 gvl vs) (hl : vs.length ≤ 200) :
    ∀ (m i n : Nat) (D : List q_V) (r : q_T), i + m = vs.length → m < n → D.length ≤ i → q_C L t o b0 ([0, 0, 0, 0] ++ q_en (q_rn 0 D)) r →
    ∃ r', tw_GR_writeRow_h10 (iN vs.length) gvl (iN t) n (iN D.length) (iN i) (iN r.1) (iN L) r.2.1 r.2.2 = q_e4 L r' ∧ q_C L t o b0 (q_bx (q_rn 0 (D ++ q_pv (vs.drop i)))) r' := by
  intro m
  induction m with
  | zero =>
    intro i n D r hi hn hD hr
    obtain ⟨n, rfl⟩ : ∃ m, n = m + 1 := ⟨n - 1, by omega⟩
    have : i = vs.length := by omega
    subst this
    obtain ⟨r', t1, t2⟩ := c_cls (L := L) (t := t) (o := o) (b := b0) (w := q_en (q_rn 0 D)) (r := r) (by omega) hr
    unfold tw_GR_writeRow_h10
    rw [if_pos (Int32.le_refl _), t1, q_t4e, List.drop_length]
    refine ⟨r', rfl, ?_⟩
    show q_C L t o b0 (q_bx (q_rn 0 (D ++ []))) r'
    rw [List.append_nil]
    exact t2
  | succ m ih =>
    intro i n D r hi hn hD hr
    obtain ⟨n, rfl⟩ : ∃ m, n = m + 1 := ⟨n - 1, by omega⟩
    have il : i < vs.length := by omega
    have V := hv i _ (List.getElem?_eq_getElem il)
    unfold tw_GR_writeRow_h10
    rw [if_neg (by simp (disch := omega) only [iN_a, iN_c, iN_le, iN_lt, iN_eq, iN_i]; omega), iN_c (by omega), show iN i + 1 = iN (i + 1) from iN_a i 1, List.drop_eq_getElem_cons il, q_pvc]
    cases hz : vs[i] with
    | none =>
      rw [hz] at V
      have V : gvl i = 0 := V
      rw [if_pos V]
      exact ih (i + 1) n D r (by omega) (by omega) (by omega) hr
    | some z =>
      rw [hz] at V
      have V : q_kg fb 162000 T b0 (gvl i) z := V
      have nz := q_kgn V
      obtain ⟨P, v1, v2, v3, v4, v5, v6⟩ := V
      have kn := (q_okn v2).1
      try dsimp only
      rw [if_neg nz, v1, show tw_ST_kindOf (iN (32 * P + z.1.toNat)) = iN z.1.toNat from q_k (by omega) kn, show tw_ST_placeOf (iN (32 * P + z.1.toNat)) = iN P from q_p (by omega) kn]
      obtain ⟨r1, a1, a2⟩ := c_ix (L := L) (t := r.1) (v := D.length) (o := r.2.1) (b := r.2.2) (k := z.1) (by omega) hr.2.2.1 (by omega)
      have W1 := q_Ca hr a2
      have sP : sb r1.2.2 P z.2 := sb_fr v3 (fun j u v => W1.1 j (by omega))
      obtain ⟨r2, b1, b2⟩ := c_cp (L := L) (t := r1.1) (a := P) (o := r1.2.1) (b := r1.2.2) (l := z.2) a2.2.2.1 (by omega) sP v5
      have W2 := q_Ca W1 b2
      have e : [0, 0, 0, 0] ++ q_en (q_rn 0 D) ++ (z.1 :: (q_dg D.length ++ [0])) ++ z.2 = [0, 0, 0, 0] ++ q_en (q_rn 0 (D ++ [z])) := by
        rw [q_rna, q_ena, Nat.zero_add]
        show _ = [0, 0, 0, 0] ++ (q_en (q_rn 0 D) ++ (q_e1 (z.1, q_dg D.length, z.2) ++ []))
        unfold q_e1
        simp [List.append_assoc]
      rw [e] at W2
      rw [a1, q_t4e, q_eo v2 sP (by omega), b1, q_t4e, show iN D.length + 1 = iN (D ++ [z]).length by rw [List.length_append, List.length_singleton]; exact iN_a _ 1]
      obtain ⟨r', c1, c2⟩ := ih (i + 1) n (D ++ [z]) r2 (by omega) (by omega) (by rw [List.length_append, List.length_singleton]; omega) W2
      rw [List.append_assoc] at c2
      exact ⟨r', c1, c2⟩
theorem c_wro {L t fb T : Nat} {o : Bool} {b : Nat → UInt8} {gvl : Nat → Int32} {vs : List (Option q_V)} (hL : L ≤ 122000) (ht : 2000 ≤ t) (htL : t ≤ L) (hdis : fb + 40000 ≤ t ∨ L ≤ fb) (hv : q_vr fb T b gvl vs) (hl : vs.length ≤ 200) :
    ∃ r', tw_GR_writeRow (iN vs.length) gvl (iN t) (iN L) o b = q_e4 L r' ∧ q_C L t o b (q_bx (q_rn 0 (q_pv vs))) r' := by
  obtain ⟨r, a1, a2⟩ := c_op (L := L) (t := t) (o := o) (b := b) htL (by omega)
  unfold tw_GR_writeRow
  rw [a1, q_tp5]
  try dsimp only
  obtain ⟨r', c1, c2⟩ := c_wr_h (o := o) hL ht hdis hv hl vs.length 0 (((iN vs.length).toInt - (0 : Int32).toInt).toNat + 1) [] r (by omega) (by rw [iN_i (by omega)]; show _ < ((vs.length : Nat) - (0 : Int)).toNat + 1; omega) (Nat.le_refl _) a2
  exact ⟨r', c1, c2⟩
theorem q_tp1 {T1 Z : Type} (q : T1) (f : T1 → Z) : tp1 q f = f q := rfl
/-- a name and a value, or a null -/
theorem c_nv {L t fb A T a : Nat} {o : Bool} {b : Nat → UInt8} {x : Int32} {z : q_V} {nm : List UInt8} (hL : L ≤ 122000) (ht : 2000 ≤ t) (htL : t ≤ L) (hdis : fb + 40000 ≤ t ∨ L ≤ fb) (hA : 122000 ≤ A) (hn : sb b a nm) (ha : a + nm.length ≤ 2000) (hx : q_kg fb A T b x z) :
    ∃ r', tp4 (tw_WR_name (iN t) (iN L) o b (tw_ST_kindOf x) (iN a) (iN (a + nm.length))) (fun p1 l1 f1 b1 => tw_WR_copy p1 l1 f1 b1 (tw_ST_placeOf x) (tw_ST_endOf b1 x)) = q_e4 L r' ∧ q_C L t o b (q_e1 (z.1, nm, z.2)) r' := by
  obtain ⟨P, v1, v2, v3, v4, v5, v6⟩ := hx
  have kn := (q_okn v2).1
  obtain ⟨r1, a1, a2⟩ := c_nm (L := L) (t := t) (a := a) (o := o) (b := b) (k := z.1) (l := nm) htL (by omega) hn (by omega) (by omega)
  have sP : sb r1.2.2 P z.2 := sb_fr v3 (fun j u v => a2.1 j (by omega))
  obtain ⟨r2, b1, b2⟩ := c_cp (L := L) (t := r1.1) (a := P) (o := r1.2.1) (b := r1.2.2) (l := z.2) a2.2.2.1 (by omega) sP v5
  rw [v1, show tw_ST_kindOf (iN (32 * P + z.1.toNat)) = iN z.1.toNat from q_k (by omega) kn, show tw_ST_placeOf (iN (32 * P + z.1.toNat)) = iN P from q_p (by omega) kn, a1, q_t4e, q_eo v2 sP (by omega), b1]
  refine ⟨r2, rfl, ?_⟩
  have := q_Ca a2 b2
  rw [show z.1 :: (nm ++ [0]) ++ z.2 = q_e1 (z.1, nm, z.2) by unfold q_e1; simp] at this
  exact this
/-- the element of a part of a group -/
def q_pk (wk : Nat) (vs : List (Option q_V)) : q_V := (if wk = 3 then q_bs true none (q_pv vs) else if wk = 4 then q_bs false none (q_pv vs) else if wk = 6 then vs.getLastD none else vs.headD none).getD (10, [])
def q_gval (wk : Nat) (vs : List (Option q_V)) : q_V := if wk = 1 then (18, q_l8 (Int64.ofNat vs.length)) else if wk = 2 then (18, q_l8 (Int64.ofInt (q_sm1 vs))) else if wk = 7 then (4, q_bx (q_rn 0 (q_pv vs))) else if wk = 8 then (4, q_bx (q_rn 0 (q_uq1 [] (q_pv vs)))) else q_pk wk vs
theorem q_ofs {S : Int} {g : Int64} (h : q_in6 S = true) (e : g.toInt = S) : g = Int64.ofInt S := by
  have h := of_decide_eq_true h
  apply Int64.toInt_inj.1
  rw [e, Int64.toInt_ofInt_of_le (by omega) (by omega)]
theorem q_ofn {n : Nat} (h : n < 2147483648) : (iN n).toInt64 = Int64.ofNat n := by
  apply Int64.toInt_inj.1
  rw [q_t64 h, Int64.toInt_ofNat_of_lt (by omega)]
theorem c_wp {L t fb T a wk : Nat} {o : Bool} {gsum : Int64} {b : Nat → UInt8} {gvl : Nat → Int32} {vs : List (Option q_V)} {nm : List UInt8} (hL : L ≤ 122000) (ht : 2000 ≤ t) (htL : t ≤ L) (hdis : fb + 40000 ≤ t ∨ L ≤ fb) (hv : q_vr fb T b gvl vs) (hl : vs.length ≤ 200) (hn : sb b a nm) (ha : a + nm.length ≤ 2000) (hw : wk < 9) (hw0 : wk ≠ 0) (h2 : wk = 2 → q_in6 (q_sm1 vs) = true) :
    ∃ r' g gvl', tw_GR_writePart (iN vs.length) gsum (iN t) (iN L) o b gvl (iN a) (iN (a + nm.length)) (iN wk) = (g, iN r'.1, iN L, r'.2.1, r'.2.2, gvl') ∧ q_C L t o b (q_e1 ((q_gval wk vs).1, nm, (q_gval wk vs).2)) r' := by
  have w8 : ∀ (v : Int64), ∃ r', (∃ r1 : q_T, tw_WR_name (iN t) (iN L) o b 18 (iN a) (iN (a + nm.length)) = q_e4 L r1 ∧ tw_WR_whole64 (iN r1.1) (iN L) r1.2.1 r1.2.2 v = q_e4 L r') ∧ q_C L t o b (q_e1 (18, nm, q_l8 v)) r' := by
    intro v
    obtain ⟨r1, a1, a2⟩ := c_nm (L := L) (t := t) (a := a) (o := o) (b := b) (k := 18) (l := nm) htL (by omega) hn (by omega) (by omega)
    obtain ⟨r2, b1, b2⟩ := c_w8 (L := L) (t := r1.1) (v := v) (o := r1.2.1) (b := r1.2.2) (by omega) a2.2.2.1
    refine ⟨r2, ⟨r1, a1, b1⟩, ?_⟩
    have := q_Ca a2 b2
    rw [show (18 : UInt8) :: (nm ++ [0]) ++ q_l8 v = q_e1 (18, nm, q_l8 v) by unfold q_e1; simp] at this
    exact this
  have row : ∀ (gv : Nat → Int32) (us : List (Option q_V)), q_vr fb T b gv us → us.length = vs.length → ∃ r', (∃ r1 : q_T, tw_WR_name (iN t) (iN L) o b 4 (iN a) (iN (a + nm.length)) = q_e4 L r1 ∧ tw_GR_writeRow (iN vs.length) gv (iN r1.1) (iN L) r1.2.1 r1.2.2 = q_e4 L r') ∧ q_C L t o b (q_e1 (4, nm, q_bx (q_rn 0 (q_pv us)))) r' := by
    intro gv us hus ul
    obtain ⟨r1, a1, a2⟩ := c_nm (L := L) (t := t) (a := a) (o := o) (b := b) (k := 4) (l := nm) htL (by omega) hn (by omega) (by omega)
    obtain ⟨r2, b1, b2⟩ := c_wro (L := L) (t := r1.1) (fb := fb) (T := T) (o := r1.2.1) (b := r1.2.2) (gvl := gv) (vs := us) hL (by have := a2.2.1; omega) a2.2.2.1 (by have := a2.2.1; omega) (q_vrf hus (Nat.le_refl _) (fun j hj => a2.1 j (by omega))) (by omega)
    rw [ul] at b1
    refine ⟨r2, ⟨r1, a1, b1⟩, ?_⟩
    have := q_Ca a2 b2
    rw [show (4 : UInt8) :: (nm ++ [0]) ++ q_bx (q_rn 0 (q_pv us)) = q_e1 (4, nm, q_bx (q_rn 0 (q_pv us))) by unfold q_e1; simp] at this
    exact this
  have pk : ∀ (x : Int32) (z : Option q_V), q_kz fb T b x z → ∃ r', (if x = 0 then
        tp4 (tw_WR_name (iN t) (iN L) o b (tw_ST_kindOf 10) (iN a) (iN (a + nm.length))) (fun place_32 limit_32 full_32 b_32 =>
          tp4 (tw_WR_copy place_32 limit_32 full_32 b_32 (tw_ST_placeOf 10) (tw_ST_endOf b_32 10)) (fun place_33 limit_33 full_33 b_33 =>
            (gsum, place_33, limit_33, full_33, b_33, gvl)))
      else
        tp4 (tw_WR_name (iN t) (iN L) o b (tw_ST_kindOf x) (iN a) (iN (a + nm.length))) (fun place_30 limit_30 full_30 b_30 =>
          tp4 (tw_WR_copy place_30 limit_30 full_30 b_30 (tw_ST_placeOf x) (tw_ST_endOf b_30 x)) (fun place_31 limit_31 full_31 b_31 =>
            (gsum, place_31, limit_31, full_31, b_31, gvl)))) = (gsum, iN r'.1, iN L, r'.2.1, r'.2.2, gvl) ∧ q_C L t o b (q_e1 ((z.getD (10, [])).1, nm, (z.getD (10, [])).2)) r' := by
    intro x z hz
    have key : ∀ (x : Int32) (z : q_V), q_kg fb 162000 T b x z → ∃ r', tp4 (tw_WR_name (iN t) (iN L) o b (tw_ST_kindOf x) (iN a) (iN (a + nm.length))) (fun place_30 limit_30 full_30 b_30 =>
          tp4 (tw_WR_copy place_30 limit_30 full_30 b_30 (tw_ST_placeOf x) (tw_ST_endOf b_30 x)) (fun place_31 limit_31 full_31 b_31 =>
            (gsum, place_31, limit_31, full_31, b_31, gvl))) = (gsum, iN r'.1, iN L, r'.2.1, r'.2.2, gvl) ∧ q_C L t o b (q_e1 (z.1, nm, z.2)) r' := by
      intro x z hx
      obtain ⟨r', c1, c2⟩ := c_nv (o := o) hL ht htL hdis (by omega) hn ha hx
      refine ⟨r', ?_, c2⟩
      rw [q_tp4] at c1 ⊢
      rw [c1]
      rfl
    cases z with
    | none =>
      have hz : x = 0 := hz
      rw [if_pos hz]
      exact key 10 (10, []) q_kg0
    | some z =>
      have hz : q_kg fb 162000 T b x z := hz
      rw [if_neg (q_kgn hz)]
      exact key x z hz
  unfold tw_GR_writePart q_gval
  have w9 : wk = 1 ∨ wk = 2 ∨ wk = 3 ∨ wk = 4 ∨ wk = 5 ∨ wk = 6 ∨ wk = 7 ∨ wk = 8 := by omega
  rcases w9 with rfl | rfl | rfl | rfl | rfl | rfl | rfl | rfl
  · obtain ⟨r', ⟨r1, b1, b2⟩, b3⟩ := w8 (Int64.ofNat vs.length)
    rw [if_pos (show iN 1 = 1 from rfl), if_pos (show 1 = 1 from rfl), b1, q_t4e, q_ofn (by omega), b2, q_t4e]
    exact ⟨r', _, _, rfl, b3⟩
  · obtain ⟨g, g1, g2⟩ := c_au (gsum := gsum) hv hl
    have g3 := q_ofs (h2 rfl) (g2 (h2 rfl))
    obtain ⟨r', ⟨r1, b1, b2⟩, b3⟩ := w8 (Int64.ofInt (q_sm1 vs))
    rw [if_neg (show ¬ iN 2 = 1 by decide), if_pos (show iN 2 = 2 from rfl), if_neg (show ¬ 2 = 1 by decide), if_pos (show 2 = 2 from rfl), g1, q_tp2]
    try dsimp only
    rw [b1, q_t4e, g3, b2, q_t4e]
    exact ⟨r', _, _, rfl, b3⟩
  · obtain ⟨r', b1, b2⟩ := pk _ _ (c_lst (u := true) hv hl)
    rw [if_pos (show true = true from rfl)] at b1
    rw [if_neg (show ¬ iN 3 = 1 by decide), if_neg (show ¬ iN 3 = 2 by decide), if_neg (show ¬ iN 3 = 7 by decide), if_neg (show ¬ iN 3 = 8 by decide), if_pos (show iN 3 = 3 from rfl), b1]
    exact ⟨r', _, _, rfl, b2⟩
  · obtain ⟨r', b1, b2⟩ := pk _ _ (c_lst (u := false) hv hl)
    rw [if_neg (show ¬ false = true by decide)] at b1
    rw [if_neg (show ¬ iN 4 = 1 by decide), if_neg (show ¬ iN 4 = 2 by decide), if_neg (show ¬ iN 4 = 7 by decide), if_neg (show ¬ iN 4 = 8 by decide), if_neg (show ¬ iN 4 = 3 by decide), if_pos (show iN 4 = 4 from rfl), b1]
    exact ⟨r', _, _, rfl, b2⟩
  · obtain ⟨r', b1, b2⟩ := pk _ _ (c_fst hv hl)
    rw [if_neg (show ¬ iN 5 = 1 by decide), if_neg (show ¬ iN 5 = 2 by decide), if_neg (show ¬ iN 5 = 7 by decide), if_neg (show ¬ iN 5 = 8 by decide), if_neg (show ¬ iN 5 = 3 by decide), if_neg (show ¬ iN 5 = 4 by decide), if_neg (show ¬ iN 5 = 6 by decide), b1]
    exact ⟨r', _, _, rfl, b2⟩
  · obtain ⟨r', b1, b2⟩ := pk _ _ (c_lat hv hl)
    rw [if_neg (show ¬ iN 6 = 1 by decide), if_neg (show ¬ iN 6 = 2 by decide), if_neg (show ¬ iN 6 = 7 by decide), if_neg (show ¬ iN 6 = 8 by decide), if_neg (show ¬ iN 6 = 3 by decide), if_neg (show ¬ iN 6 = 4 by decide), if_pos (show iN 6 = 6 from rfl), b1]
    exact ⟨r', _, _, rfl, b2⟩
  · obtain ⟨r', ⟨r1, b1, b2⟩, b3⟩ := row gvl vs hv rfl
    rw [if_neg (show ¬ iN 7 = 1 by decide), if_neg (show ¬ iN 7 = 2 by decide), if_pos (show iN 7 = 7 from rfl), if_neg (show ¬ iN 7 = 8 by decide), b1, q_t4e, b2, q_t4e]
    exact ⟨r', _, _, rfl, b3⟩
  · obtain ⟨r', ⟨r1, b1, b2⟩, b3⟩ := row _ _ (c_dt hv hl) (q_dtl vs [])
    rw [q_dtp] at b3
    rw [if_neg (show ¬ iN 8 = 1 by decide), if_neg (show ¬ iN 8 = 2 by decide), if_neg (show ¬ iN 8 = 7 by decide), if_pos (show iN 8 = 8 from rfl), if_pos (show iN 8 = 8 from rfl)]
    rw [q_tp1, b1, q_t4e, b2, q_t4e]
    exact ⟨r', _, _, rfl, b3⟩
