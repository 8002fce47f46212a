/-! the pure part: skip and limit -/
theorem q_lgl (x y : Int64) : (lg_cmp x y < 0) = (x.toInt < y.toInt) := by
  unfold lg_cmp
  by_cases q : x > y
  · have := Int64.lt_iff_toInt_lt.1 q
    rw [if_pos q]
    exact propext ⟨fun z => absurd z (by decide), fun z => by omega⟩
  · have q1 : ¬ y.toInt < x.toInt := fun z => q (Int64.lt_iff_toInt_lt.2 z)
    rw [if_neg q]
    by_cases e : x = y
    · rw [if_pos e, e]
      exact propext ⟨fun z => absurd z (by decide), fun z => by omega⟩
    · have e1 : ¬ x.toInt = y.toInt := fun z => e (Int64.toInt_inj.1 z)
      rw [if_neg e]
      exact propext ⟨fun _ => by omega, fun _ => by decide⟩
theorem q_lgg (x y : Int64) : (0 ≤ lg_cmp x y) = (y.toInt ≤ x.toInt) := by
  have := q_lgl x y
  refine propext ⟨fun z => ?_, fun z => ?_⟩
  · have n : ¬ lg_cmp x y < 0 := Int32.not_lt.2 z
    rw [this] at n
    omega
  · have n : ¬ lg_cmp x y < 0 := by
      rw [this]
      omega
    exact Int32.not_lt.1 n
theorem q_t64 {n : Nat} (h : n < 2147483648) : (iN n).toInt64.toInt = n := by
  rw [Int32.toInt_toInt64, iN_i h]
theorem q_mn {X : Int64} {n : Nat} (h0 : 0 ≤ X.toInt) (hn : n ≤ 200) : (if (iN n).toInt64 < X then (iN n).toInt64 else X).toInt32 = iN (min n X.toInt.toNat) := by
  have t := q_t64 (n := n) (by omega)
  by_cases c : (iN n).toInt64 < X
  · have := Int64.lt_iff_toInt_lt.1 c
    rw [if_pos c, Int32.toInt32_toInt64]
    exact congrArg iN (by omega)
  · have : ¬ (iN n).toInt64.toInt < X.toInt := fun z => c (Int64.lt_iff_toInt_lt.2 z)
    have e : X = (iN X.toInt.toNat).toInt64 := by
      apply Int64.toInt_inj.1
      rw [q_t64 (by omega)]
      omega
    rw [if_neg c]
    conv => lhs; rw [e]
    rw [Int32.toInt32_toInt64]
    exact congrArg iN (by omega)
def q_lo (k : UInt8) (v : List UInt8) : Option Nat := if q_cl k = 2 ∧ 0 ≤ (q_nu k v).toInt then some (q_nu k v).toInt.toNat else none
def q_run (N : Option (List (List UInt8))) (l : List (List UInt8)) : Option (List (List UInt8)) := l.foldl q_more N
theorem q_run0 (N : Option (List (List UInt8))) : q_run N [] = N := rfl
theorem q_runc (N : Option (List (List UInt8))) (d : List UInt8) (l : List (List UInt8)) : q_run N (d :: l) = q_run (q_more N d) l := rfl
theorem q_runn (l : List (List UInt8)) : q_run none l = none := by
  induction l with
  | nil => rfl
  | cons d l ih => exact ih
def q_sk (skip : Bool) (m : Nat) (F : List (List UInt8)) : List (List UInt8) := if skip = true then F.drop m else F.take m
def q_05 (N : Option (List (List UInt8))) : Int32 := if N.isSome = true then 0 else 5
theorem c_lo_h {fb nb e : Nat} {fcnt : Int32} {fsts : Nat → Int32} {F : List (List UInt8)} (hd : fb + 40000 ≤ nb ∨ nb + 40000 ≤ fb) (he : e ≤ F.length) :
    ∀ (m i n : Nat) (b : Nat → UInt8) (ncnt place limit : Int32) (full : Bool) (nsts : Nat → Int32) (N : List (List UInt8)), i + m = e → m < n → q_be b fb fcnt fsts F → q_be b nb ncnt nsts N →
    ∃ p l f b' c s M, tw_PB_leaveOut_h78 (iN fb) (iN nb) fcnt fsts (iN e) n (iN i) place limit full b ncnt nsts = (q_05 (q_run (some N) ((F.drop i).take m)), p, l, f, b', c, s) ∧ q_be b' nb c s M ∧ (∀ R, q_run (some N) ((F.drop i).take m) = some R → M = R) ∧ (∀ j, j < nb ∨ nb + 40000 ≤ j → b' j = b j) := by
  intro m
  induction m with
  | zero =>
    intro i n b ncnt place limit full nsts N hi hn hb h
    obtain ⟨n, rfl⟩ : ∃ m, n = m + 1 := ⟨n - 1, by omega⟩
    have : i = e := by omega
    subst this
    unfold tw_PB_leaveOut_h78
    rw [if_pos (Int32.le_refl _), List.take_zero, q_run0]
    exact ⟨_, _, _, _, _, _, N, rfl, h, (fun R q => by cases q; rfl), fun _ _ => rfl⟩
  | succ m ih =>
    intro i n b ncnt place limit full nsts N hi hn hb h
    obtain ⟨n, rfl⟩ : ∃ m, n = m + 1 := ⟨n - 1, by omega⟩
    have il : i < F.length := by omega
    have F1 := hb.2.2.2.1.1
    have F2 := hb.2.2.2.1.2.1
    have hk : F[i]? = some F[i] := List.getElem?_eq_getElem il
    obtain ⟨p', l', f', b', c', s', k1, k2, k3⟩ := c_keep (place := place) (limit := limit) (full := full) hb h hd hk
    unfold tw_PB_leaveOut_h78
    rw [if_neg (by simp (disch := omega) only [iN_a, iN_c, iN_le, iN_lt, iN_eq, iN_i]; omega), k1, List.drop_eq_getElem_cons il, List.take_succ_cons, q_runc]
    cases hm : q_more (some N) F[i] with
    | none =>
      rw [hm] at k2
      rw [q_runn]
      exact ⟨_, _, _, _, _, _, N, rfl, k2, (fun R q => by cases q), k3⟩
    | some N' =>
      rw [hm] at k2
      obtain ⟨p2, l2, f2, b2, c2, s2, M, e1, e2, e3, e4⟩ := ih (i + 1) n b' c' p' l' f' s' N' (by omega) (by omega) (q_bef hb (fun j u v => k3 j (by omega))) k2
      exact ⟨p2, l2, f2, b2, c2, s2, M, (show tw_PB_leaveOut_h78 (iN fb) (iN nb) fcnt fsts (iN e) n (iN i + 1) p' l' f' b' c' s' = _ by rw [show iN i + 1 = iN (i + 1) from iN_a i 1]; exact e1), e2, e3, fun j hj => (e4 j hj).trans (k3 j hj)⟩
theorem q_l16 {D : Nat} {v : List UInt8} (h : q_ok D 16 v) : v.length = 4 := by
  have l := q_okl h (by decide) (by decide)
  unfold q_lf at l
  rcases l with ⟨_, hv⟩ | ⟨e, _⟩ | ⟨e, _⟩ | ⟨e, _⟩ | ⟨e, _⟩
  · exact hv
  all_goals exact absurd e (by decide)
theorem q_l18 {D : Nat} {v : List UInt8} (h : q_ok D 18 v) : v.length = 8 := by
  have l := q_okl h (by decide) (by decide)
  unfold q_lf at l
  rcases l with ⟨e, _⟩ | ⟨_, hv⟩ | ⟨e, _⟩ | ⟨e, _⟩ | ⟨e, _⟩
  rotate_left
  · exact hv
  all_goals exact absurd e (by decide)
theorem c_lo {b : Nat → UInt8} {fb nb p D : Nat} {fcnt ncnt place limit : Int32} {full : Bool} {fsts nsts : Nat → Int32} {F : List (List UInt8)} {k : UInt8} {v : List UInt8} {skip : Bool} (hd : fb + 40000 ≤ nb ∨ nb + 40000 ≤ fb) (hb : q_be b fb fcnt fsts F) (h : q_be b nb ncnt nsts []) (ho : q_ok D k v) (hs : sb b p v) (hp : p + v.length ≤ 2000) :
    ∃ pl l f b' c s M, tw_PB_leaveOut (iN fb) (iN nb) fcnt fsts place limit full b ncnt nsts (iN (32 * p + k.toNat)) (b2i skip) = ((match q_lo k v with | none => 2 | some m => q_05 (q_run (some []) (q_sk skip m F))), pl, l, f, b', c, s) ∧ q_be b' nb c s M ∧ (∀ m R, q_lo k v = some m → q_run (some []) (q_sk skip m F) = some R → M = R) ∧ (∀ j, j < nb ∨ nb + 40000 ≤ j → b' j = b j) := by
  have F1 := hb.2.2.2.1.1
  have kk : k.toNat < 32 := (q_okn ho).1
  unfold tw_PB_leaveOut q_lo
  rw [q_co (by omega) kk, hb.1]
  by_cases c1 : q_cl k = 2
  rotate_left
  · rw [if_neg (by have := q_cl7 k; simp (disch := omega) only [i_2, iN_a, iN_c, iN_le, iN_lt, iN_eq, iN_i]; omega), if_neg (fun z => c1 z.1)]
    exact ⟨_, _, _, _, _, _, [], rfl, h, (fun m R q => by cases q), fun _ _ => rfl⟩
  have nu : tw_ST_number b (iN (32 * p + k.toNat)) = q_nu k v := by
    rcases q_cl2.1 c1 with rfl | rfl
    · exact q_n16 (q_l16 ho) hs (by have := q_l16 ho; omega)
    · exact q_n18 (q_l18 ho) hs (by have := q_l18 ho; omega)
  rw [if_pos (by rw [c1]; rfl), nu]
  by_cases c2 : 0 ≤ (q_nu k v).toInt
  rotate_left
  · rw [if_neg (by rw [q_lgg]; exact c2), if_neg (fun z => c2 z.2)]
    exact ⟨_, _, _, _, _, _, [], rfl, h, (fun m R q => by cases q), fun _ _ => rfl⟩
  rw [if_pos (by rw [q_lgg]; exact c2), if_pos (show q_cl k = 2 ∧ 0 ≤ (q_nu k v).toInt from ⟨c1, c2⟩), q_mn c2 F1]
  generalize (q_nu k v).toInt.toNat = m
  cases skip with
  | false =>
    rw [if_pos (show b2i false = 0 from rfl), if_pos (show b2i false = 0 from rfl)]
    obtain ⟨p2, l2, f2, b2, c2, s2, M, e1, e2, e3, e4⟩ := c_lo_h (fb := fb) (nb := nb) (e := min F.length m) (fcnt := iN F.length) (fsts := fsts) hd (Nat.min_le_left _ _) (min F.length m) 0 (((iN (min F.length m)).toInt - (0 : Int32).toInt).toNat + 1) b ncnt place limit full nsts [] (by omega) (by rw [iN_i (by omega)]; show _ < ((min F.length m : Nat) - (0 : Int)).toNat + 1; omega) (by rw [← hb.1]; exact hb) h
    have e : (F.drop 0).take (min F.length m) = q_sk false m F := by
      show _ = F.take m
      rw [List.drop_zero, ← List.take_take, List.take_of_length_le (by rw [List.length_take]; omega)]
    rw [e] at e1 e3
    refine ⟨p2, l2, f2, b2, c2, s2, M, e1, e2, ?_, e4⟩
    intro m' R q1 q2
    cases q1
    exact e3 R q2
  | true =>
    rw [if_neg (show ¬ b2i true = 0 by decide), if_neg (show ¬ b2i true = 0 by decide)]
    obtain ⟨p2, l2, f2, b2, c2, s2, M, e1, e2, e3, e4⟩ := c_lo_h (fb := fb) (nb := nb) (e := F.length) (fcnt := iN F.length) (fsts := fsts) hd (Nat.le_refl _) (F.length - min F.length m) (min F.length m) (((iN F.length).toInt - (iN (min F.length m)).toInt).toNat + 1) b ncnt place limit full nsts [] (by omega) (by rw [iN_i (by omega), iN_i (by omega)]; omega) (by rw [← hb.1]; exact hb) h
    have e : (F.drop (min F.length m)).take (F.length - min F.length m) = q_sk true m F := by
      show _ = F.drop m
      rw [List.take_of_length_le (by rw [List.length_drop]; exact Nat.le_refl _)]
      by_cases c : m ≤ F.length
      · rw [Nat.min_eq_right c]
      · rw [Nat.min_eq_left (by omega), List.drop_length, List.drop_eq_nil_of_le (by omega)]
    rw [e] at e1 e3
    refine ⟨p2, l2, f2, b2, c2, s2, M, e1, e2, ?_, e4⟩
    intro m' R q1 q2
    cases q1
    exact e3 R q2
theorem r_lo_h {fu mm : Nat} {skip : Bool} {x4 : Int32} {X : Int64} {K : Int32 → Int32 → Int32 → Int32 → Int32 → Int32 → Bool → Bool → Int32 → Int32 → Int64 → Int64 → Bool → (Nat → Int32) → (Nat → Int32) → (Nat → Int32) → (Nat → Int32) → (Nat → Int32) → (Nat → Int32) → (Nat → Int32) → (Nat → Int32) → (Nat → Int32) → (Nat → Int32) → (Nat → Int32) → (Nat → Int32) → (Nat → Int32) → (Nat → Int32) → (Nat → Int32) → Option (Int32 × Int32 × Int32 × Int32 × Int32 × Int32 × Bool × Bool × Int32 × Int32 × Int64 × Int64 × Bool × (Nat → Int32) × (Nat → Int32) × (Nat → Int32) × (Nat → Int32) × (Nat → Int32) × (Nat → Int32) × (Nat → Int32) × (Nat → Int32) × (Nat → Int32) × (Nat → Int32) × (Nat → Int32) × (Nat → Int32) × (Nat → Int32) × (Nat → Int32) × (Nat → Int32))} {lvs : Int32} {its : Int32} {hgh : Int64} {loo : Int64} {dfl : Bool} {dcs : (Nat → Int32)} {tot : (Nat → Int32)} {frm : (Nat → Int32)} {siz : (Nat → Int32)} {lkd : (Nat → Int32)} {lat : (Nat → Int32)} {kkd : (Nat → Int32)} {kat : (Nat → Int32)} {odr : (Nat → Int32)} {grp : (Nat → Int32)} {ikd : (Nat → Int32)} {iat : (Nat → Int32)} {F : List (List UInt8)} (hX : X.toInt = mm) (hf : 2500 ≤ fu) :
    ∀ (m i n : Nat) (frs : Int32) (frt : Int32) (top : Int32) (bgn : Int32) (mst : Int32) (ovr : Bool) (tgr : Bool) (st : (Nat → Int32)) (ffr : (Nat → Int32)) (fsz : (Nat → Int32)) (N : Option (List (List UInt8))), i + m = F.length → m < n → q_rb st 0 dcs tot frm siz F → q_fr st frs frt top tgr ffr fsz N →
    ∃ fs ft tp bg ms ov tg st' ff fz, tw_MO_does_h105 fu K (if skip = true then 5 else 6) x4 X n (iN i) frs frt top bgn mst ovr tgr lvs its hgh loo dfl st dcs tot frm siz ffr fsz lkd lat kkd kat odr grp ikd iat = K (iN F.length) fs ft tp bg ms ov tg lvs its hgh loo dfl st' dcs tot frm siz ff fz lkd lat kkd kat odr grp ikd iat ∧ q_fr st' fs ft tp tg ff fz (q_run N (if skip = true then F.drop (max i mm) else (F.take mm).drop i)) ∧ (∀ j, j < 80000 ∨ 122001 ≤ j → st' j = st j) := by
  intro m
  induction m with
  | zero =>
    intro i n frs frt top bgn mst ovr tgr st ffr fsz N hi hn hb h
    obtain ⟨n, rfl⟩ : ∃ m, n = m + 1 := ⟨n - 1, by omega⟩
    have : i = F.length := by omega
    subst this
    unfold tw_MO_does_h105
    rw [show dcs (0 : Int32).toNatClampNeg = iN F.length from hb.1, if_pos (Int32.le_refl _)]
    have e : (if skip = true then F.drop (max F.length mm) else (F.take mm).drop F.length) = [] := by
      split
      · exact List.drop_eq_nil_of_le (by omega)
      · exact List.drop_eq_nil_of_le (by rw [List.length_take]; omega)
    rw [e]
    exact ⟨_, _, _, _, _, _, _, _, _, _, rfl, h, fun _ _ => rfl⟩
  | succ m ih =>
    intro i n frs frt top bgn mst ovr tgr st ffr fsz N hi hn hb h
    obtain ⟨n, rfl⟩ : ∃ m, n = m + 1 := ⟨n - 1, by omega⟩
    have il : i < F.length := by omega
    have F1 := hb.2.2.2.2.1
    have F2 := hb.2.2.2.2.2.1
    have hk : F[i]? = some F[i] := List.getElem?_eq_getElem il
    obtain ⟨fs, ft, tp, bg, ms, ov, tg, st', ff, fz, k1, k2, k3⟩ := r_keep (bgn := bgn) (mst := mst) (ovr := ovr) hf hb h hk
    unfold tw_MO_does_h105
    rw [show dcs (0 : Int32).toNatClampNeg = iN F.length from hb.1, if_neg (by simp (disch := omega) only [iN_a, iN_c, iN_le, iN_lt, iN_eq, iN_i]; omega)]
    unfold tw_MO_does_r116
    have cond : (lg_cmp (iN i).toInt64 X < 0) ↔ i < mm := by
      rw [q_lgl, q_t64 (by omega), hX]
      omega
    have kept : ∀ l, q_run (q_more N F[i]) l = q_run N (F[i] :: l) := fun _ => rfl
    have go := ih (i + 1) n fs ft tp bg ms ov tg st' ff fz (q_more N F[i]) (by omega) (by omega) (q_rbf hb (fun j u v => k3 j (by omega))) k2
    have stay := ih (i + 1) n frs frt top bgn mst ovr tgr st ffr fsz N (by omega) (by omega) hb h
    by_cases c : i < mm
    · rw [if_pos (cond.2 c)]
      cases skip with
      | true =>
        rw [if_pos rfl, if_pos rfl, show iN i + 1 = iN (i + 1) from iN_a i 1] at *
        rw [show max (i + 1) mm = max i mm by omega] at stay
        exact stay
      | false =>
        rw [if_neg (show ¬ false = true by decide)] at *
        rw [if_neg (show ¬ (6 : Int32) = 5 by decide), k1, obs10, show iN i + 1 = iN (i + 1) from iN_a i 1]
        obtain ⟨fs2, ft2, tp2, bg2, ms2, ov2, tg2, st2, ff2, fz2, g1, g2, g3⟩ := go
        refine ⟨fs2, ft2, tp2, bg2, ms2, ov2, tg2, st2, ff2, fz2, g1, ?_, fun j hj => (g3 j hj).trans (k3 j hj)⟩
        rw [if_neg (show ¬ false = true by decide)] at *
        have e : (F.take mm).drop i = F[i] :: (F.take mm).drop (i + 1) := by
          rw [List.drop_eq_getElem_cons (by rw [List.length_take]; omega), List.getElem_take]
        rw [e, ← kept]
        exact g2
    · rw [if_neg (fun z => c (cond.1 z))]
      cases skip with
      | true =>
        rw [if_pos rfl] at *
        rw [if_pos rfl, k1, obs10, show iN i + 1 = iN (i + 1) from iN_a i 1]
        obtain ⟨fs2, ft2, tp2, bg2, ms2, ov2, tg2, st2, ff2, fz2, g1, g2, g3⟩ := go
        refine ⟨fs2, ft2, tp2, bg2, ms2, ov2, tg2, st2, ff2, fz2, g1, ?_, fun j hj => (g3 j hj).trans (k3 j hj)⟩
        rw [if_pos rfl] at *
        rw [show max i mm = i by omega, List.drop_eq_getElem_cons il, ← kept]
        rw [show max (i + 1) mm = i + 1 by omega] at g2
        exact g2
      | false =>
        rw [if_neg (show ¬ false = true by decide)] at *
        rw [if_neg (show ¬ (6 : Int32) = 5 by decide), show iN i + 1 = iN (i + 1) from iN_a i 1]
        obtain ⟨fs2, ft2, tp2, bg2, ms2, ov2, tg2, st2, ff2, fz2, g1, g2, g3⟩ := stay
        refine ⟨fs2, ft2, tp2, bg2, ms2, ov2, tg2, st2, ff2, fz2, g1, ?_, g3⟩
        rw [if_neg (show ¬ false = true by decide)] at *
        rw [List.drop_eq_nil_of_le (show (F.take mm).length ≤ i by rw [List.length_take]; omega)]
        rw [List.drop_eq_nil_of_le (show (F.take mm).length ≤ i + 1 by rw [List.length_take]; omega)] at g2
        exact g2
