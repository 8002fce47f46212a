/-! the pure part: the class's $unwind -/
theorem q_dnv : ∀ (xs : List (List UInt8)) (P d : Nat) (v : q_V) (ts : List Nat) (A : Nat) (w : q_V), q_ok d v.1 v.2 → v.2.length ≤ 2000 → q_dn xs P v = some (ts, A, w) → q_ok d w.1 w.2 := by
  intro xs
  induction xs with
  | nil =>
    intro P d v ts A w ho hl h
    cases h
    exact ho
  | cons x xs ih =>
    intro P d v ts A w ho hl h
    obtain ⟨k, v⟩ := v
    dsimp only at ho hl
    rw [q_dnc] at h
    by_cases k3 : k = 3
    rotate_left
    · rw [if_neg (show ¬ (k, v).1 = 3 from k3)] at h
      cases h
    subst k3
    rw [if_pos rfl] at h
    obtain ⟨e, ps, rfl, rfl, o1, o2⟩ := q_okd ho (Or.inl rfl)
    rw [q_psb o1 (by omega)] at h
    cases hq : q_fn x ps with
    | none =>
      rw [hq] at h
      cases h
    | some y =>
      rw [hq] at h
      obtain ⟨f1, _⟩ := q_fnm (o := y.1) (y := y.2) hq
      have ml := q_enm f1
      have bl := q_bxl ps
      replace h : (q_dn xs (P + 4 + y.1 + y.2.2.1.length + 2) (y.2.1, y.2.2.2)).map (fun r => (P :: r.1, r.2)) = some (ts, A, w) := h
      cases hd : q_dn xs (P + 4 + y.1 + y.2.2.1.length + 2) (y.2.1, y.2.2.2) with
      | none =>
        rw [hd] at h
        cases h
      | some r2 =>
        obtain ⟨t2, A2, w2⟩ := r2
        rw [hd] at h
        cases h
        exact q_okm (ih _ e (y.2.1, y.2.2.2) t2 A w (o1 y.2 f1).2 (by dsimp only; omega) hd) (by omega)
theorem q_dns {b : Nat → UInt8} {P A d : Nat} {v x : List UInt8} {xs : List (List UInt8)} {ts : List Nat} {w : q_V} (ho : q_ok d 3 v) (hl : v.length ≤ 2000) (h : q_dn (x :: xs) P (3, v) = some (ts, A, w)) (hs : sb b P v) : sb b A w.2 ∧ P ≤ A ∧ A + w.2.length ≤ P + v.length := by
  obtain ⟨pre, nm, post, g1, g2, g3, _⟩ := q_ctx xs x P d v ts ho hl h
  have Dl : v.length = pre.length + (nm.length + w.2.length + 2) + post.length := by
    rw [g2]
    simp only [List.length_append, List.length_cons]
    omega
  rw [g2, List.append_assoc] at hs
  have s1 := sb_ap.1 hs
  have s2 := sb_ap.1 s1.2
  have s3 := sb_ap.1 (show sb b (P + pre.length + 1) (nm ++ (0 :: w.2)) from s2.1.2)
  refine ⟨?_, by omega, by omega⟩
  rw [g3, show P + pre.length + nm.length + 2 = P + pre.length + 1 + nm.length + 1 by omega]
  exact s3.2.2
theorem c_urw {b : Nat → UInt8} {fb nb k A : Nat} {fcnt ncnt place limit : Int32} {full : Bool} {fsts nsts pst pen pix pho : Nat → Int32} {F N : List (List UInt8)} {D x : List UInt8} {xs : List (List UInt8)} {ts : List Nat} {w : q_V} (hd : fb + 40000 ≤ nb ∨ nb + 40000 ≤ fb) (hk : F[k]? = some D) (h8 : xs.length + 1 ≤ 8)
    (hdn : q_dn (x :: xs) (fb + q_pf F k) (3, D) = some (ts, A, w)) (hpho : ∀ i q, ts[i]? = some q → pho i = iN q) (hw4 : w.1 = 4) (hpa : q_pa b pst pen pix (x :: xs)) (hb : q_be b fb fcnt fsts F) (h : q_be b nb ncnt nsts N) :
    ∃ pl l f b' c s M, tw_SH_unwindRow (iN fb) (iN nb) fcnt fsts (iN (xs.length + 1)) pst pen pho place limit full b ncnt nsts (iN k) (iN (32 * A + w.1.toNat)) = ((q_run (some N) ((q_ps w.2).map (fun y => q_rpl (y.1, y.2.2) (x :: xs) D))).isSome, pl, l, f, b', c, s) ∧ q_be b' nb c s M ∧ (∀ R, q_run (some N) ((q_ps w.2).map (fun y => q_rpl (y.1, y.2.2) (x :: xs) D)) = some R → M = R) ∧ (∀ j, j < nb ∨ nb + 40000 ≤ j → b' j = b j) := by
  obtain ⟨d1, d2, d3, d4⟩ := q_bed hb hk
  have F2 := hb.2.2.2.1.2.1
  have F5 := hb.2.2.2.2.1
  have hw := q_dnv (x :: xs) _ 16 (3, D) ts A w d2 d3 hdn
  obtain ⟨s1, s2, s3⟩ := q_dns d2 d3 hdn d1
  have hw' := hw
  rw [hw4] at hw'
  obtain ⟨e, rs, he, ew, o1, o2⟩ := q_okd hw' (Or.inr rfl)
  have wl : w.2.length = (q_bx rs).length := by rw [ew]
  have bl := q_bxl rs
  have pl := q_psl rs
  have sr := s1
  rw [ew] at sr
  have s4 := (sb_bx sr).2.1
  rw [ew, q_psb o1 (by omega)]
  have kw := (q_okn hw).1
  have eo := q_eo hw s1 (by omega)
  unfold tw_SH_unwindRow
  rw [eo, show tw_ST_placeOf (iN (32 * A + w.1.toNat)) = iN A from q_p (by omega) kw, iN_s1 (by omega), show iN A + 4 = iN (A + 4) from iN_a A 4]
  generalize hn : ((1000 : Int32).toInt - (0 : Int32).toInt).toNat + 1 = n
  have hn' : n = 1001 := by rw [← hn]; decide
  have key : ∀ y ∈ rs, y.2.2.length ≤ w.2.length ∧ ∀ d', q_ok d' w.1 w.2 → q_ok d' y.1 y.2.2 := by
    intro y hy
    have := q_enm hy
    exact ⟨by omega, q_itm hw4 ew o1 (by omega) y hy⟩
  exact c_ur (E := A + w.2.length - 1) (pix := pix) hd hk h8 rfl hdn hpho hw (by omega) (by omega) rs (A + 4) n 0 b place limit full ncnt nsts N key s4 (q_opm o1 (by omega)) (by omega) (by omega) (by omega) (by omega) hpa hb h
theorem c_uw_h {fb nb : Nat} {fcnt : Int32} {pfix : Bool} {fsts pst pen pix : Nat → Int32} {F : List (List UInt8)} {x : List UInt8} {xs : List (List UInt8)} (hd : fb + 40000 ≤ nb ∨ nb + 40000 ≤ fb) (h8 : xs.length + 1 ≤ 8) :
    ∀ (m i n : Nat) (b : Nat → UInt8) (place limit : Int32) (full : Bool) (ncnt : Int32) (nsts : Nat → Int32) (N : List (List UInt8)) (pho : Nat → Int32), i + m = F.length → m < n → q_pa b pst pen pix (x :: xs) → q_be b fb fcnt fsts F → q_be b nb ncnt nsts N →
    ∃ pl l f b' c s pho' M, tw_SH_unwind_h28 (iN fb) (iN nb) fcnt fsts n (iN i) place limit full b ncnt nsts (iN (xs.length + 1)) pfix pst pen pix pho = (q_05 (q_run (some N) ((F.drop i).flatMap (q_uw (x :: xs)))), pl, l, f, b', c, s, iN (xs.length + 1), pfix, pst, pen, pix, pho') ∧ q_be b' nb c s M ∧ (∀ R, q_run (some N) ((F.drop i).flatMap (q_uw (x :: xs))) = some R → M = R) ∧ (∀ j, j < nb ∨ nb + 40000 ≤ j → b' j = b j) := by
  have k0 : tw_ST_kindOf 0 = 0 := by decide
  intro m
  induction m with
  | zero =>
    intro i n b place limit full ncnt nsts N pho hi hn hpa hb h
    obtain ⟨n, rfl⟩ : ∃ m, n = m + 1 := ⟨n - 1, by omega⟩
    have : i = F.length := by omega
    subst this
    unfold tw_SH_unwind_h28
    rw [hb.1, if_pos (Int32.le_refl _), List.drop_length]
    exact ⟨_, _, _, _, _, _, _, N, rfl, h, (fun R q => by cases q; rfl), fun _ _ => rfl⟩
  | succ m ih =>
    intro i n b place limit full ncnt nsts N pho hi hn hpa hb h
    obtain ⟨n, rfl⟩ : ∃ m, n = m + 1 := ⟨n - 1, by omega⟩
    have il : i < F.length := by omega
    have F1 := hb.2.2.2.1.1
    have F2 := hb.2.2.2.1.2.1
    have F5 := hb.2.2.2.2.1
    have N6 := h.2.2.2.2.2
    have hk : F[i]? = some F[i] := List.getElem?_eq_getElem il
    obtain ⟨d1, d2, d3, d4⟩ := q_bed hb hk
    obtain ⟨pk, lk, fk, bk, ck, sk, k1, k2, k3⟩ := c_keep (place := place) (limit := limit) (full := full) hb h hd hk
    obtain ⟨pho1, t1, t2, t3⟩ := c_td_h hpa (by rw [List.length_cons]; exact h8) (xs.length + 1) 0 (((8 : Int32).toInt - (0 : Int32).toInt).toNat + 1) (fb + q_pf F i) 16 3 F[i] pho (by rw [List.length_cons]; omega) (by rw [show ((8 : Int32).toInt - (0 : Int32).toInt).toNat + 1 = 9 from rfl]; omega) d2 d1 (by omega) d3
    rw [List.drop_zero, List.length_cons, show iN 0 = (0 : Int32) from rfl] at t1
    rw [List.drop_zero] at t3
    have bsd := q_bsd hb (show i ≤ F.length by omega)
    have nx : ∀ (pl l : Int32) (f : Bool) (b1 : Nat → UInt8) (c : Int32) (s : Nat → Int32) (M : List (List UInt8)), q_be b1 nb c s M → (∀ j, j < nb ∨ nb + 40000 ≤ j → b1 j = b j) → ∃ pl2 l2 f2 b2 c2 s2 pho2 M2, tw_SH_unwind_h28 (iN fb) (iN nb) fcnt fsts n (iN i + 1) pl l f b1 c s (iN (xs.length + 1)) pfix pst pen pix pho1 = (q_05 (q_run (some M) ((F.drop (i + 1)).flatMap (q_uw (x :: xs)))), pl2, l2, f2, b2, c2, s2, iN (xs.length + 1), pfix, pst, pen, pix, pho2) ∧ q_be b2 nb c2 s2 M2 ∧ (∀ R, q_run (some M) ((F.drop (i + 1)).flatMap (q_uw (x :: xs))) = some R → M2 = R) ∧ (∀ j, j < nb ∨ nb + 40000 ≤ j → b2 j = b j) := by
      intro pl l f b1 c s M hM hfr
      obtain ⟨a1, a2, a3, a4, a5, a6, a7, a8, g1, g2, g3, g4⟩ := ih (i + 1) n b1 pl l f c s M pho1 (by omega) (by omega) (q_paf hpa (fun j hj => hfr j (by omega))) (q_bef hb (fun j u v => hfr j (by omega))) hM
      rw [show iN i + 1 = iN (i + 1) from iN_a i 1]
      exact ⟨a1, a2, a3, a4, a5, a6, a7, a8, g1, g2, g3, fun j hj => (g4 j hj).trans (hfr j hj)⟩
    unfold tw_SH_unwind_h28 tw_PA_throughDocuments
    rw [if_neg (by rw [hb.1]; simp (disch := omega) only [iN_a, iN_c, iN_le, iN_lt, iN_eq, iN_i]; omega), bsd, show iN (32 * (fb + q_pf F i) + 3) = iN (32 * (fb + q_pf F i) + (3 : UInt8).toNat) from rfl, t1, q_tp2, List.drop_eq_getElem_cons il, List.flatMap_cons, q_runa]
    dsimp only
    have th := q_dnt (x :: xs) (fb + q_pf F i) (3, F[i])
    cases hdn : q_dn (x :: xs) (fb + q_pf F i) (3, F[i]) with
    | none =>
      rw [hdn] at th
      have e : q_uw (x :: xs) F[i] = [] := by
        unfold q_uw
        rw [← th]
        rfl
      rw [e, q_run0, show q_ref1 none = 0 from rfl, k0, if_neg (show ¬ (0 : Int32) = 4 by decide), if_pos rfl]
      exact nx place limit full b ncnt nsts N h (fun _ _ => rfl)
    | some r =>
      obtain ⟨ts, A, w⟩ := r
      rw [hdn] at th
      replace th : q_th (x :: xs) (3, F[i]) = some w := th.symm
      have hw := q_dnv (x :: xs) _ 16 (3, F[i]) ts A w d2 d3 hdn
      obtain ⟨s1, s2, s3⟩ := q_dns d2 d3 hdn d1
      have kw := q_okn hw
      rw [show q_ref1 (some (ts, A, w)) = iN (32 * A + w.1.toNat) from rfl, show tw_ST_kindOf (iN (32 * A + w.1.toNat)) = iN w.1.toNat from q_k (by omega) kw.1]
      have pho2 : ∀ i q, ts[i]? = some q → pho1 i = iN q := by
        intro i' q hq
        have := t3 (ts, A, w) hdn i' q hq
        rwa [Nat.zero_add] at this
      by_cases w4 : w.1 = 4
      · have e : q_uw (x :: xs) F[i] = (q_ps w.2).map (fun y => q_rpl (y.1, y.2.2) (x :: xs) F[i]) := by
          unfold q_uw
          rw [th]
          exact if_pos w4
        obtain ⟨a1, a2, a3, a4, a5, a6, a7, g1, g2, g3, g4⟩ := c_urw (place := place) (limit := limit) (full := full) hd hk h8 hdn pho2 w4 hpa hb h
        rw [if_pos (show iN w.1.toNat = 4 by rw [w4]; rfl), g1, e, q_tp7]
        dsimp only
        cases hr : q_run (some N) ((q_ps w.2).map (fun y => q_rpl (y.1, y.2.2) (x :: xs) F[i])) with
        | none =>
          rw [if_pos (show b2i (none : Option (List (List UInt8))).isSome = 0 from rfl), q_runn]
          exact ⟨_, _, _, _, _, _, _, _, rfl, g2, (fun R q => by cases q), g4⟩
        | some R1 =>
          have := g3 R1 hr
          subst this
          rw [if_neg (show ¬ b2i (some a7).isSome = 0 from (by decide : ¬ b2i true = 0))]
          exact nx a1 a2 a3 a4 a5 a6 a7 g2 g4
      rw [if_neg (fun q => w4 (by rw [show (4 : Int32) = iN 4 from rfl, iN_eq (by omega) (by omega), q_ko w.1 4 (by omega)] at q; exact q)), if_neg (by simp (disch := omega) only [i_0, iN_a, iN_c, iN_le, iN_lt, iN_eq, iN_i]; omega)]
      by_cases w10 : w.1 = 10
      · have e : q_uw (x :: xs) F[i] = [] := by
          unfold q_uw
          rw [th]
          show (if w.1 = 4 then _ else if w.1 = 10 then _ else _) = _
          rw [if_neg w4, if_pos w10]
        rw [if_pos (show iN w.1.toNat = 10 by rw [w10]; rfl), e, q_run0]
        exact nx place limit full b ncnt nsts N h (fun _ _ => rfl)
      · have e : q_uw (x :: xs) F[i] = [F[i]] := by
          unfold q_uw
          rw [th]
          show (if w.1 = 4 then _ else if w.1 = 10 then _ else _) = _
          rw [if_neg w4, if_neg w10]
        rw [if_neg (fun q => w10 (by rw [show (10 : Int32) = iN 10 from rfl, iN_eq (by omega) (by omega), q_ko w.1 10 (by omega)] at q; exact q)), k1, q_tp7, e, q_runc, q_run0]
        dsimp only
        cases hr : q_more (some N) F[i] with
        | none =>
          rw [hr] at k2
          rw [if_pos (show b2i (none : Option (List (List UInt8))).isSome = 0 from rfl), q_runn]
          exact ⟨_, _, _, _, _, _, _, _, rfl, k2, (fun R q => by cases q), k3⟩
        | some R1 =>
          rw [hr] at k2
          rw [if_neg (show ¬ b2i (some R1).isSome = 0 from (by decide : ¬ b2i true = 0))]
          exact nx pk lk fk bk ck sk R1 k2 k3
def q_ft2 (k : UInt8) (v : List UInt8) : Nat := if q_ex k v = true then (if (q_po (q_xt v)).isSome = true then 0 else 3) else 2
def q_xs (v : List UInt8) : List (List UInt8) := (q_po (q_xt v)).getD []
theorem q_tp6 {T1 T2 T3 T4 T5 T6 Z : Type} (q : T1 × T2 × T3 × T4 × T5 × T6) (f : T1 → T2 → T3 → T4 → T5 → T6 → Z) : tp6 q f = f q.1 q.2.1 q.2.2.1 q.2.2.2.1 q.2.2.2.2.1 q.2.2.2.2.2 := rfl
theorem c_uw {b : Nat → UInt8} {fb nb p D : Nat} {fcnt ncnt place limit : Int32} {full : Bool} {fsts nsts : Nat → Int32} {F : List (List UInt8)} {k : UInt8} {v : List UInt8} {pcnt : Int32} {pfix : Bool} {pst pen pix pho : Nat → Int32} (hd : fb + 40000 ≤ nb ∨ nb + 40000 ≤ fb) (hb : q_be b fb fcnt fsts F) (h : q_be b nb ncnt nsts []) (ho : q_ok D k v) (hs : sb b p v) (hp : p + v.length ≤ 2000) :
    ∃ pl l f b' c s pc pf ps' pe px ph M, tw_SH_unwind (iN fb) (iN nb) fcnt fsts place limit full b ncnt nsts pcnt pfix pst pen pix pho (iN (32 * p + k.toNat)) = (q_ans (q_ft2 k v) (q_run (some []) (F.flatMap (q_uw (q_xs v)))), pl, l, f, b', c, s, pc, pf, ps', pe, px, ph) ∧ q_be b' nb c s M ∧ (∀ R, q_run (some []) (F.flatMap (q_uw (q_xs v))) = some R → q_ft2 k v = 0 → M = R) ∧ (∀ j, j < nb ∨ nb + 40000 ≤ j → b' j = b j) := by
  have F1 := hb.2.2.2.1.1
  unfold tw_SH_unwind q_ans q_ft2 q_xs
  rw [c_sd ho hs (by omega)]
  cases c : q_ex k v with
  | false =>
    rw [if_pos (show b2i false = 0 from rfl), if_neg (show ¬ false = true by decide), if_neg (show ¬ 2 = 0 by decide)]
    exact ⟨_, _, _, _, _, _, _, _, _, _, _, _, [], rfl, h, (fun R _ q => absurd q (by decide)), fun _ _ => rfl⟩
  | true =>
    obtain ⟨rfl, e1⟩ := q_exp ho c
    have l2 : v.length = (q_xt v).length + 6 := by
      conv => lhs; rw [e1]
      rw [q_txl, List.length_cons]
    have s2 := hs
    rw [e1] at s2
    have s3 := sb_ap.1 s2
    rw [q_l4l] at s3
    have s4 : sb b (p + 5) (q_xt v) := (sb_ap.1 s3.2.2).1
    have pl : tw_ST_placeOf (iN (32 * p + (2 : UInt8).toNat)) = iN p := q_p (k := 2) (by omega) (by decide)
    have eo := q_eo ho hs (by omega)
    unfold tw_PA_readBehindDollar
    rw [if_neg (show ¬ b2i true = 0 by decide), pl, eo, show iN p + 5 = iN (p + 5) from iN_a p 5, iN_s1 (by omega), show p + v.length - 1 = p + 5 + (q_xt v).length by omega, if_pos (show true = true from rfl), q_tp6, q_tp6]
    dsimp only
    have R := q_rd (pcnt := pcnt) (pfix := pfix) (pst := pst) (pen := pen) (pix := pix) s4 (by omega)
    by_cases g : q_gp true (q_xt v) = true ∧ q_dc (q_xt v) < 8
    · obtain ⟨ps, pe, px, r1, r2⟩ := R.1 g
      have po : q_po (q_xt v) = some (q_sl [] (q_xt v)) := by
        unfold q_po
        rw [if_pos g]
      obtain ⟨_, p2, p3, p4⟩ := q_pok po
      rw [r1, po, if_pos (show (some (q_sl [] (q_xt v))).isSome = true from rfl), if_pos (show 0 = 0 from rfl), show (some (q_sl [] (q_xt v))).getD [] = q_sl [] (q_xt v) from rfl]
      dsimp only
      generalize q_sl [] (q_xt v) = ys at *
      cases ys with
      | nil => exact absurd rfl p2
      | cons x xs =>
        rw [List.length_cons] at p3 ⊢
        rw [if_neg (show ¬ b2i true = 0 by decide)]
        obtain ⟨a1, a2, a3, a4, a5, a6, a7, M, g1, g2, g3, g4⟩ := c_uw_h (x := x) (xs := xs) (pst := ps) (pen := pe) (pix := px) (fsts := fsts) (fcnt := fcnt) (F := F) hd p3 F.length 0 ((fcnt.toInt - (0 : Int32).toInt).toNat + 1) b place limit full ncnt nsts [] pho (by omega) (by rw [hb.1, iN_i (by omega)]; show _ < ((F.length : Nat) - (0 : Int)).toNat + 1; omega) r2 hb h
        rw [List.drop_zero] at g1 g3
        exact ⟨_, _, _, _, _, _, _, _, _, _, _, _, M, g1, g2, fun R q _ => g3 R q, g4⟩
    · have po : q_po (q_xt v) = none := by
        unfold q_po
        rw [if_neg g]
      rw [R.2 g, po, if_pos (show b2i false = 0 from rfl), if_neg (show ¬ (none : Option (List (List UInt8))).isSome = true by decide), if_neg (show ¬ 3 = 0 by decide)]
      exact ⟨_, _, _, _, _, _, _, _, _, _, _, _, [], rfl, h, (fun R _ q => absurd q (by decide)), fun _ _ => rfl⟩
