/-! the pure part: the reference's keys -/
def q_kR (st : Nat → Int32) (kk ka : Int32) (z : q_V) : Prop := kk = iN z.1.toNat ∧ ∃ P, ka = iN P ∧ q_oz 16 z.1 z.2 ∧ sm st P z.2 ∧ P + z.2.length ≤ 136400 ∧ z.2.length ≤ 2000
theorem r_kr {fu : Nat} {st : Nat → Int32} {kk ka kk2 ka2 : Int32} {z w : q_V} (hf : 2500 ≤ fu) (h : q_kR st kk ka z) (h2 : q_kR st kk2 ka2 w) : tw_MO_ord0 fu st kk ka kk2 ka2 = some (q_ov2 20 z w) := by
  obtain ⟨rfl, P, rfl, a1, a2, a3, a4⟩ := h
  obtain ⟨rfl, Q, rfl, b1, b2, b3, b4⟩ := h2
  exact r_ord0 hf a1 b1 a2 b2 a3 b3 (by omega) (by omega) (by omega)
theorem q_kR0 (st : Nat → Int32) : q_kR st 0 0 (0, []) := ⟨rfl, 0, rfl, Or.inr ⟨rfl, rfl⟩, trivial, Nat.zero_le _, Nat.zero_le _⟩
theorem q_kRl {st : Nat → Int32} {p : Nat} {xs : List (List UInt8)} {v : List UInt8} {z : q_L} (ho : q_ok 16 3 v) (hv : v.length ≤ 2000) (hs : sm st p v) (hp : p + v.length ≤ 136400) (h : z ∈ q_lD xs v) : q_kR st (q_lk z) (q_la p z) z.2 := by
  rcases q_lDo ho hv h with rfl | ⟨h1, h2⟩
  · exact q_kR0 st
  · have kn := q_okn h1
    have := q_ile h2
    unfold q_lk q_la
    rw [if_neg (fun q => kn.2 (by rw [q]; rfl))]
    exact ⟨rfl, p + z.1, rfl, Or.inl h1, q_ism h2 hs, by omega, by omega⟩
theorem q_wrm {f : Nat → Int32} {L : List q_L} {g : q_L → Int32} {i : Nat} {z : q_L} (h : L[i]? = some z) : q_wr f 0 (L.map g) i = g z := by
  have il := (List.getElem?_eq_some_iff.1 h).1
  rw [q_wrg, if_pos (by rw [List.length_map]; omega), Nat.sub_zero, List.getD_eq_getElem?_getD, List.getElem?_map, h]
  rfl
abbrev q_O5 := Option (Int32 × (Nat → Int32) × (Nat → Int32) × (Nat → Int32) × (Nat → Int32))
theorem r_bs {u : Bool} {c : Int32} (h : q_s3 c) {A : Type} (x y : A) : (if b2i u = 0 then (if c ≤ 0 then x else y) else (if 0 ≤ c then x else y)) = if q_sgn u c = -1 then y else x := by
  unfold q_sgn
  rcases h with rfl | rfl | rfl <;> cases u <;> rfl
theorem r_fk_h {fu p : Nat} {u : Bool} {st lkd lat kkd kat : Nat → Int32} {x1 : Int32} {K : Int32 → Int32 → Int32 → (Nat → Int32) → (Nat → Int32) → (Nat → Int32) → (Nat → Int32) → q_O5} {L : List q_L} (hf : 2500 ≤ fu) (hL : ∀ i z, L[i]? = some z → lkd i = q_lk z ∧ lat i = q_la p z) (hl : L.length ≤ 30000) (hv : ∀ z ∈ L, q_kR st (q_lk z) (q_la p z) z.2) :
    ∀ (m i n j : Nat) (w : q_L), i + m = L.length → m < n → L[j]? = some w → ∃ j' w', tw_MO_findKey_h31 fu st K x1 (b2i u) n (iN j) (iN i) (iN L.length) lkd lat kkd kat = K (iN j') (iN L.length) (iN L.length) lkd lat kkd kat ∧ L[j']? = some w' ∧ q_fs (q_B u) (some w) (L.drop i) = some w' := by
  intro m
  induction m with
  | zero =>
    intro i n j w hi hn hw
    obtain ⟨n, rfl⟩ : ∃ m, n = m + 1 := ⟨n - 1, by omega⟩
    have : i = L.length := by omega
    subst this
    unfold tw_MO_findKey_h31
    rw [if_pos (Int32.le_refl _), List.drop_length]
    exact ⟨j, w, rfl, hw, rfl⟩
  | succ m ih =>
    intro i n j w hi hn hw
    obtain ⟨n, rfl⟩ : ∃ m, n = m + 1 := ⟨n - 1, by omega⟩
    have il : i < L.length := by omega
    have jl := (List.getElem?_eq_some_iff.1 hw).1
    have e := List.getElem?_eq_getElem il
    have zm : L[i] ∈ L := List.getElem_mem il
    have wm : w ∈ L := List.mem_of_getElem? hw
    unfold tw_MO_findKey_h31
    rw [if_neg (by simp (disch := omega) only [iN_a, iN_c, iN_le, iN_lt, iN_eq, iN_i]; omega), if_pos (by simp (disch := omega) only [i_0, i_60000, iN_a, iN_c, iN_le, iN_lt, iN_eq, iN_i]; omega), if_pos (by simp (disch := omega) only [i_0, i_60000, iN_a, iN_c, iN_le, iN_lt, iN_eq, iN_i]; omega), iN_c (by omega), iN_c (by omega), (hL i _ e).1, (hL i _ e).2, (hL j _ hw).1, (hL j _ hw).2, r_kr hf (hv _ zm) (hv w wm), obs1]
    unfold tw_MO_findKey_r74
    have s3 := q_ov3 20 L[i].2.1 L[i].2.2 w.2.1 w.2.2
    change q_s3 (q_ov2 20 L[i].2 w.2) at s3
    rw [r_bs s3, List.drop_eq_getElem_cons il, q_fsc, show iN i + 1 = iN (i + 1) from iN_a i 1]
    by_cases c : q_sgn u (q_ov2 20 L[i].2 w.2) = -1
    · rw [if_pos c, if_pos (show q_B u L[i] w = true from decide_eq_true c)]
      exact ih (i + 1) n i L[i] (by omega) (by omega) e
    · rw [if_neg c, if_neg (show ¬ q_B u L[i] w = true from fun q => c (of_decide_eq_true q))]
      exact ih (i + 1) n j w (by omega) (by omega) hw
theorem r_fk0 {fu n : Nat} {st lkd lat kkd kat : Nat → Int32} {x1 p3 x5 x6 lvs : Int32} {K : Int32 → Int32 → Int32 → (Nat → Int32) → (Nat → Int32) → (Nat → Int32) → (Nat → Int32) → q_O5} (hn : 0 < n) (h : lvs ≤ x6) : tw_MO_findKey_h31 fu st K x1 p3 n x5 x6 lvs lkd lat kkd kat = K x5 x6 lvs lkd lat kkd kat := by
  obtain ⟨n, rfl⟩ : ∃ m, n = m + 1 := ⟨n - 1, by omega⟩
  unfold tw_MO_findKey_h31
  rw [if_pos h]
theorem r_key {fu P i s : Nat} {u : Bool} {st lkd lat kkd kat : Nat → Int32} {lvs : Int32} {xs : List (List UInt8)} {v : List UInt8} (hf : 60000 ≤ fu) (hi : i < 200) (hP : P + v.length < 136400) (hx : ∀ x ∈ xs, q_gs x) (hx0 : xs ≠ []) (hx8 : xs.length ≤ 8) (hsq : q_sq st s xs) (ho : q_ok 16 3 v) (h : sm st P v) (hv : v.length ≤ 2000) :
    ∃ lv' lkd' lat' K1 K2, tw_MO_findKey fu st lvs lkd lat kkd kat (iN i) (iN P) (iN s) (b2i u) = some (lv', lkd', lat', upd kkd i K1, upd kat i K2) ∧ q_kR st K1 K2 (q_kyv u xs v) := by
  have lb := q_lDb ho hv hx hx0 hx8
  have lv := r_lv (fu := fu) (p := P) (st := st) (by omega) 16 26 26 0 s 0 3 v xs lkd lat ho h (by omega) (by omega) hx hsq (by omega) (by omega) (show q_cap 0 (q_lD xs v).length from ⟨by omega, by omega⟩)
  have st0 : q_st s xs = s := by
    cases xs with
    | nil => exact absurd rfl hx0
    | cons x r => rfl
  rw [st0, Nat.add_zero] at lv
  replace lv : tw_MO_lvs0 fu st 0 lkd lat 3 (iN P) (iN s) = q_lr P 0 lkd lat (q_lD xs v) := lv
  have val : ∀ z ∈ q_lD xs v, q_kR st (q_lk z) (q_la P z) z.2 := fun z hz => q_kRl ho hv h (by omega) hz
  unfold tw_MO_findKey
  rw [lv]
  unfold q_lr q_kyv
  rw [obs3]
  generalize q_lD xs v = L at *
  rw [Nat.zero_add]
  unfold tw_MO_findKey_r12
  cases L with
  | nil =>
    rw [List.length_nil, if_pos (show iN 0 = 0 from rfl), r_lf (by omega) (by omega), obs3]
    dsimp only
    rw [r_fk0 (by omega) (show iN (0 + 1) ≤ 1 by decide)]
    rw [if_pos (show 0 ≤ (0 : Int32) ∧ (0 : Int32) < 60000 by decide), if_pos (by simp (disch := omega) only [i_0, i_800, iN_a, iN_c, iN_le, iN_lt, iN_eq, iN_i]; omega), iN_c (by omega)]
    exact ⟨_, _, _, _, _, rfl, q_kR0 st⟩
  | cons z r =>
    have lb' := lb
    rw [List.length_cons] at lb'
    rw [if_neg (by rw [List.length_cons]; simp (disch := omega) only [i_0, iN_a, iN_c, iN_le, iN_lt, iN_eq, iN_i]; omega)]
    dsimp only
    obtain ⟨j', w', t1, t2, t3⟩ := r_fk_h (fu := fu) (p := P) (u := u) (st := st) (lkd := q_wr lkd 0 ((z :: r).map q_lk)) (lat := q_wr lat 0 ((z :: r).map (q_la P))) (kkd := kkd) (kat := kat) (x1 := iN i) (K := fun (x5_13 : Int32) (x6_13 : Int32) (lvs_13 : Int32) (lkd_13 : Nat → Int32) (lat_13 : Nat → Int32) (kkd_13 : Nat → Int32) (kat_13 : Nat → Int32) =>
      if 0 ≤ x5_13 ∧ x5_13 < 60000 then
        if 0 ≤ iN i ∧ iN i < 800 then
          some (lvs_13, lkd_13, lat_13, upd kkd_13 (iN i).toNatClampNeg (lkd_13 x5_13.toNatClampNeg), upd kat_13 (iN i).toNatClampNeg (lat_13 x5_13.toNatClampNeg))
        else
          none
      else
        none) (by omega) (fun i z hz => ⟨q_wrm hz, q_wrm hz⟩) (by omega) val r.length 1 fu 0 z (by rw [List.length_cons]; omega) (by rw [List.length_cons] at lb; omega) rfl
    have jl := (List.getElem?_eq_some_iff.1 t2).1
    rw [show iN 0 = (0 : Int32) from rfl, show iN 1 = (1 : Int32) from rfl] at t1
    rw [t1]
    rw [if_pos (by simp (disch := omega) only [i_0, i_60000, iN_a, iN_c, iN_le, iN_lt, iN_eq, iN_i]; omega), if_pos (by simp (disch := omega) only [i_0, i_800, iN_a, iN_c, iN_le, iN_lt, iN_eq, iN_i]; omega), iN_c (by omega), iN_c (by omega), q_wrm t2, q_wrm t2]
    refine ⟨_, _, _, _, _, rfl, ?_⟩
    rw [q_fs1]
    rw [List.drop_one, List.tail_cons] at t3
    rw [t3]
    exact val w' (List.mem_of_getElem? t2)
