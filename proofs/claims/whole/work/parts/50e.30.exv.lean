/-! the pure part: the VALUE of an expression -/
def q_xr (b : Nat → UInt8) (p : Nat) (k : UInt8) (v : List UInt8) (pcnt : Int32) (pfix : Bool) (pown : Int32) (pst pen pix : Nat → Int32) : Prop :=
  if q_ex k v = true then pfix = false ∧ ∃ xs, q_po (q_xt v) = some xs ∧ pcnt = iN xs.length ∧ q_pa b pst pen pix xs else pfix = true ∧ pown = iN (32 * p + k.toNat)
theorem c_re {b : Nat → UInt8} {d p : Nat} {k : UInt8} {v : List UInt8} {pcnt pown : Int32} {pfix : Bool} {pst pen pix : Nat → Int32} (ho : q_ok d k v) (h : sb b p v) (hp : p + v.length ≤ 2000) :
    (q_xf k v = 0 → ∃ pc pf po ps pe px, tw_PA_readExpression b pcnt pfix pown pst pen pix (iN (32 * p + k.toNat)) = (true, pc, pf, po, ps, pe, px) ∧ q_xr b p k v pc pf po ps pe px) ∧
    (q_xf k v ≠ 0 → (tw_PA_readExpression b pcnt pfix pown pst pen pix (iN (32 * p + k.toNat))).1 = false) := by
  unfold tw_PA_readExpression q_xf q_xr
  rw [c_sd ho h (by omega)]
  cases c : q_ex k v with
  | false =>
    rw [if_pos (show b2i false = 0 from rfl)]
    refine ⟨fun _ => ⟨_, _, _, _, _, _, rfl, ?_⟩, fun q => absurd (if_neg (by decide)) q⟩
    rw [if_neg (by decide)]
    exact ⟨rfl, rfl⟩
  | true =>
    obtain ⟨rfl, e1⟩ := q_exp ho c
    have l2 : v.length = (q_xt v).length + 6 := by
      conv => lhs; rw [e1]
      rw [q_txl, List.length_cons]
    have s2 := h
    rw [e1] at s2
    have s3 := sb_ap.1 s2
    rw [q_l4l] at s3
    have s4 : sb b (p + 5) (q_xt v) := (sb_ap.1 s3.2.2).1
    have pl : tw_ST_placeOf (iN (32 * p + (2 : UInt8).toNat)) = iN p := q_p (k := 2) (by omega) (by decide)
    have eo := q_eo ho h (by omega)
    rw [if_neg (show ¬ b2i true = 0 by decide), pl, eo, show iN p + 5 = iN (p + 5) from iN_a p 5, iN_s1 (by omega), show p + v.length - 1 = p + 5 + (q_xt v).length by omega]
    have R := q_rd (pcnt := pcnt) (pfix := pfix) (pst := pst) (pen := pen) (pix := pix) s4 (by omega)
    rw [q_po1]
    by_cases g : q_gp true (q_xt v) = true ∧ q_dc (q_xt v) < 8
    · obtain ⟨ps, pe, px, r1, r2⟩ := R.1 g
      refine ⟨fun _ => ?_, fun q => ?_⟩
      · rw [r1]
        refine ⟨_, _, _, _, _, _, rfl, ?_⟩
        rw [if_pos rfl]
        refine ⟨rfl, q_sl [] (q_xt v), ?_, rfl, r2⟩
        unfold q_po
        rw [if_pos g]
      · exact absurd (by rw [if_pos rfl, if_pos (decide_eq_true g)]) q
    · have r1 := R.2 g
      refine ⟨fun q => ?_, fun _ => ?_⟩
      · rw [if_pos rfl, if_neg (by rw [decide_eq_false g]; decide)] at q
        cases q
      · show (tw_PA_read b pcnt pfix pst pen pix (iN (p + 5)) (iN (p + 5 + (q_xt v).length))).1 = false
        exact r1
def q_cw (L t P m : Nat) (b : Nat → UInt8) (R : q_U) (z : Option q_V) : Prop :=
  match z with
  | none => R = (0, iN t, iN L, false, b)
  | some z => ∃ Q t' b', R = (iN (32 * Q + z.1.toNat), iN t', iN L, false, b') ∧ sb b' Q z.2 ∧ (∀ j, j < t ∨ L ≤ j → b' j = b j) ∧ ((Q = t ∧ t' = t + z.2.length) ∨ (P ≤ Q ∧ Q + z.2.length ≤ P + m ∧ t' = t ∧ b' = b) ∨ (Q + z.2.length ≤ 2000 ∧ t' = t ∧ b' = b)) ∧ t' ≤ t + m ∧ t' ≤ L
theorem q_cvw {L t P m : Nat} {b : Nat → UInt8} {R : q_U} {z : Option q_V} (h : q_cv L t (P + m) m b R z) : q_cw L t P m b R z := by
  cases z with
  | none => exact h
  | some z =>
    obtain ⟨Q, t', b', h1, h2, h3, h4, h5, h6⟩ := h
    refine ⟨Q, t', b', h1, h2, h3, ?_, h5, h6⟩
    rcases h4 with ⟨a1, a2, _⟩ | ⟨a1, a2, a3, a4, a5⟩
    · exact Or.inl ⟨a1, a2⟩
    · exact Or.inr (Or.inl ⟨by omega, a2, a4, a5⟩)
theorem c_xv {b : Nat → UInt8} {d d2 p P t L : Nat} {k : UInt8} {v doc : List UInt8} {pcnt pown : Int32} {pfix : Bool} {pst pen pix : Nat → Int32} (ho : q_ok d k v) (h : sb b p v) (hp : p + v.length ≤ 2000) (hr : q_xr b p k v pcnt pfix pown pst pen pix)
    (hd : q_ok d2 3 doc) (hd2 : d2 ≤ 20) (hD : sb b P doc) (hP : 2000 ≤ P) (hPt : P < t) (hvt : P + doc.length ≤ t) (hvL : t + doc.length ≤ L) (hL : L ≤ 202000) (hv : doc.length ≤ 2000) :
    q_cw L t P doc.length b (tw_PA_val0 pcnt pfix pown pst pen (iN t) (iN L) false b (iN (32 * P + 3))) (q_xv k v doc) := by
  unfold q_xr at hr
  unfold q_xv
  cases c : q_ex k v with
  | false =>
    rw [c, if_neg (by decide)] at hr
    rw [if_neg (by decide), hr.1, hr.2]
    exact ⟨p, t, b, rfl, h, fun _ _ => rfl, Or.inr (Or.inr ⟨hp, rfl, rfl⟩), by omega, by omega⟩
  | true =>
    rw [c, if_pos rfl] at hr
    obtain ⟨h1, xs, h2, h3, h4⟩ := hr
    obtain ⟨_, _, q3, q4⟩ := q_pok h2
    rw [if_pos rfl, h2, h1, h3]
    exact q_cvw (c_vD q4 q3 hd hd2 hD hPt hvt hvL hL (by omega) hv h4)
/-- the reference's evaluate -/
def q_ev (g m : Nat) (st : Nat → Int32) (R : Option (Int32 × Int32 × Int32 × Int32 × Bool × (Nat → Int32))) (z : Option q_V) : Prop :=
  match z with
  | none => R = some (iN 0, iN g, iN g, iN m, false, st)
  | some z => ∃ st', R = some (iN z.1.toNat, iN (g + z.2.length), iN g, iN m, false, st') ∧ sm st' g z.2 ∧ ∀ j, j < g ∨ g + m ≤ j → st' j = st j
theorem r_ev {fu e a g d d2 : Nat} {top bgn mst : Int32} {ovr : Bool} {st : Nat → Int32} {x : q_P} {doc : List UInt8} (hf : 2500 ≤ fu) (h : sm st e (q_e1 x)) (hm : (0 : UInt8) ∉ x.2.1) (ho : q_ok d x.1 x.2.2) (he : e + (q_e1 x).length ≤ 136400) (hl : (q_e1 x).length ≤ 2000) (hge : g + 4100 ≤ e)
    (hx : q_xf x.1 x.2.2 = 0) (hd : q_ok d2 3 doc) (hd2 : d2 ≤ 20) (hD : sm st a doc) (hag : a + doc.length ≤ g) (hv : doc.length ≤ 2000) :
    q_ev g 4100 st (tw_MO_evaluate fu top bgn mst ovr st (iN e) (iN a) (iN g)) (q_xv x.1 x.2.2 doc) := by
  have el := q_e1l x
  have s1 := sm_e1 h
  unfold tw_MO_evaluate tw_MO_beginValue
  rw [obs4, r_iep h hm ho he (by omega) hf, obs1, i_4100]
  unfold q_xv
  unfold q_xf at hx
  cases c : q_ex x.1 x.2.2 with
  | false =>
    obtain ⟨r, r1, r2⟩ := r_cp (fu := fu) (g := g) (m := 4100) (t := g) (o := false) (st := st) (by omega) s1.2.2.2 (by omega) (Or.inr (by omega)) (Nat.le_refl _) (by omega) (by omega)
    obtain ⟨c1, c2, c3⟩ := r2.2.2.2.1 ⟨rfl, by omega⟩
    rw [if_pos (show b2i false = 0 from rfl), if_neg (by decide), r_vo h hm (by omega) (by omega), obs1, if_pos (by simp (disch := omega) only [i_0, i_136400, iN_a, iN_c, iN_le, iN_lt, iN_eq, iN_i]; omega), iN_c (by omega), s1.1, r_lo ho s1.2.2.2 (by omega), obs1, r1]
    unfold q_e3
    rw [obs3]
    refine ⟨r.2.2, ?_, c3, r2.1⟩
    rw [c1, c2, r2.1 e (by omega), s1.1]
  | true =>
    rw [if_neg (show ¬ b2i true = 0 by decide), if_pos rfl, r_vo h hm (by omega) (by omega), obs1]
    obtain ⟨_, e1⟩ := q_exp ho c
    have l2 : x.2.2.length = (q_xt x.2.2).length + 6 := by
      conv => lhs; rw [e1]
      rw [q_txl, List.length_cons]
    have s2 := s1.2.2.2
    rw [e1] at s2
    have s3 := sm_ap.1 s2
    rw [q_l4l] at s3
    have s4 : sm st (e + x.2.1.length + 2 + 5) (q_xt x.2.2 ++ [0]) := s3.2.2
    rw [c, if_pos rfl] at hx
    cases hp : q_po (q_xt x.2.2) with
    | none =>
      rw [hp] at hx
      cases hx
    | some xs =>
      obtain ⟨q1, q2, q3, q4⟩ := q_pok hp
      have sq : q_sq st (e + x.2.1.length + 2 + 5) xs := by
        intro _
        rw [← q1]
        exact ⟨s4, by omega, by omega, by omega⟩
      have E := r_vD (fu := fu) (g := g) (m := 4100) (s := e + x.2.1.length + 2 + 5) (a := a) hf (by omega) q4 hd hd2 hD hag (by omega) hv sq (fun _ => by omega)
      rw [show iN (e + x.2.1.length + 2) + 5 = iN (e + x.2.1.length + 2 + 5) from iN_a _ 5]
      rw [show q_st (e + x.2.1.length + 2 + 5) xs = e + x.2.1.length + 2 + 5 by cases xs with | nil => exact absurd rfl q2 | cons _ _ => rfl] at E
      dsimp only
      generalize q_vD xs doc = Z at E ⊢
      cases Z with
      | none =>
        replace E : tw_MO_emt0 fu (iN g) (iN 4100) (iN g) false st 3 (iN a) (iN (e + x.2.1.length + 2 + 5)) = some (iN 0, iN g, false, st) := E
        rw [E, obs4]
        rfl
      | some z =>
        obtain ⟨st', E1, E2, E3⟩ := E
        rw [E1, obs4]
        exact ⟨st', rfl, E2, E3⟩
theorem q_xvp {d d2 : Nat} {k : UInt8} {v doc : List UInt8} {z : q_V} (ho : q_ok d k v) (hd : q_ok d2 3 doc) (hdoc : doc.length ≤ 2000) (hv : v.length ≤ 2000) (hz : q_xv k v doc = some z) : z.2.length ≤ 2000 ∧ q_ok (max d d2) z.1 z.2 := by
  unfold q_xv at hz
  cases c : q_ex k v with
  | false =>
    rw [c, if_neg (by decide)] at hz
    injection hz with hz
    subst hz
    exact ⟨hv, q_okm ho (by omega)⟩
  | true =>
    rw [c, if_pos rfl] at hz
    cases hp : q_po (q_xt v) with
    | none =>
      rw [hp] at hz
      cases hz
    | some xs =>
      rw [hp] at hz
      obtain ⟨h1, h2⟩ := q_vap d2 26 3 doc xs z hd (by omega) hz
      exact ⟨by omega, q_okm h2 (by omega)⟩
