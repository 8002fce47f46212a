/-! the pure part: sums of whole numbers -/
theorem q_64 (a : Int64) : -9223372036854775808 ≤ a.toInt ∧ a.toInt < 9223372036854775808 := ⟨Int64.le_toInt a, Int64.toInt_lt a⟩
theorem q_bm {x : Int} (h1 : -9223372036854775808 ≤ x) (h2 : x < 9223372036854775808) : x.bmod (2 ^ 64) = x := by
  rw [Int.bmod_eq_of_le]
  · omega
  · omega
theorem q_6a {a c : Int64} (h1 : -9223372036854775808 ≤ a.toInt + c.toInt) (h2 : a.toInt + c.toInt < 9223372036854775808) : (a + c).toInt = a.toInt + c.toInt := by
  rw [Int64.toInt_add, q_bm h1 h2]
theorem q_6s {a c : Int64} (h1 : -9223372036854775808 ≤ a.toInt - c.toInt) (h2 : a.toInt - c.toInt < 9223372036854775808) : (a - c).toInt = a.toInt - c.toInt := by
  rw [Int64.toInt_sub, q_bm h1 h2]
theorem q_6m {a c : Int64} (h1 : -9223372036854775808 ≤ a.toInt * c.toInt) (h2 : a.toInt * c.toInt < 9223372036854775808) : (a * c).toInt = a.toInt * c.toInt := by
  rw [Int64.toInt_mul, q_bm h1 h2]
theorem q_6h (a : Int64) : (a >>> ((32 : Int32).toInt64 &&& 63)).toInt = a.toInt / 4294967296 := by
  have e : (a >>> ((32 : Int32).toInt64 &&& 63)).toBitVec = a.toBitVec.sshiftRight 32 := rfl
  show (a >>> ((32 : Int32).toInt64 &&& 63)).toBitVec.toInt = _
  rw [e, BitVec.toInt_sshiftRight, Int.shiftRight_eq_div_pow]
  rfl
theorem q_6l (a : Int64) : (a &&& 4294967295).toInt = a.toInt % 4294967296 := by
  have e : (a &&& 4294967295).toBitVec.toNat = a.toBitVec.toNat % 4294967296 := by
    show (a.toBitVec &&& (4294967295 : Int64).toBitVec).toNat = _
    rw [BitVec.toNat_and]
    exact Nat.and_two_pow_sub_one_eq_mod _ 32
  have lt : (a &&& 4294967295).toBitVec.toNat < 4294967296 := by
    rw [e]
    omega
  show (a &&& 4294967295).toBitVec.toInt = a.toBitVec.toInt % 4294967296
  rw [BitVec.toInt_eq_toNat_of_lt (by omega), e, BitVec.toInt_eq_toNat_cond]
  split <;> omega
/-- the whole number of a value, if it is one -/
def q_n1v (z : Option q_V) : Int := match z with | none => 0 | some z => if q_cl z.1 = 2 then (q_nu z.1 z.2).toInt else 0
def q_sm1 (vs : List (Option q_V)) : Int := (vs.map q_n1v).sum
theorem q_smc (z : Option q_V) (vs : List (Option q_V)) : q_sm1 (z :: vs) = q_n1v z + q_sm1 vs := rfl
theorem q_n1b (z : Option q_V) : -9223372036854775808 ≤ q_n1v z ∧ q_n1v z < 9223372036854775808 := by
  unfold q_n1v
  cases z with
  | none => decide
  | some z =>
    try dsimp only
    split
    · exact q_64 _
    · decide
def q_in6 (x : Int) : Bool := decide (-9223372036854775808 ≤ x ∧ x < 9223372036854775808)
theorem q_cl0 : tw_ST_classOf 0 = 0 := by decide
theorem q_6o (h l : Int64) : (((h <<< ((32 : Int32).toInt64 &&& 63)) ||| (l &&& 4294967295)).toInt) = (h.toInt * 4294967296 + l.toInt % 4294967296).bmod (2 ^ 64) := by
  have e1 : (h <<< ((32 : Int32).toInt64 &&& 63)).toBitVec = h.toBitVec <<< 32 := rfl
  have e2 : (l &&& 4294967295).toBitVec.toNat = l.toBitVec.toNat % 4294967296 := by
    show (l.toBitVec &&& (4294967295 : Int64).toBitVec).toNat = _
    rw [BitVec.toNat_and]
    exact Nat.and_two_pow_sub_one_eq_mod _ 32
  have e3 : ((h <<< ((32 : Int32).toInt64 &&& 63)) ||| (l &&& 4294967295)).toBitVec.toNat = (h.toBitVec.toNat % 4294967296) * 4294967296 + l.toBitVec.toNat % 4294967296 := by
    show ((h <<< ((32 : Int32).toInt64 &&& 63)).toBitVec ||| (l &&& 4294967295).toBitVec).toNat = _
    rw [BitVec.toNat_or, e1, e2, BitVec.toNat_shiftLeft]
    have s : h.toBitVec.toNat <<< 32 % 2 ^ 64 = (h.toBitVec.toNat % 4294967296) <<< 32 := by
      rw [Nat.shiftLeft_eq, Nat.shiftLeft_eq]
      omega
    rw [s, ← Nat.shiftLeft_add_eq_or_of_lt (show l.toBitVec.toNat % 4294967296 < 2 ^ 32 by omega), Nat.shiftLeft_eq]
  show ((h <<< ((32 : Int32).toInt64 &&& 63)) ||| (l &&& 4294967295)).toBitVec.toInt = (h.toBitVec.toInt * 4294967296 + l.toBitVec.toInt % 4294967296).bmod (2 ^ 64)
  rw [BitVec.toInt_eq_toNat_bmod, e3, BitVec.toInt_eq_toNat_cond h.toBitVec, BitVec.toInt_eq_toNat_cond l.toBitVec]
  have hb := h.toBitVec.isLt
  have lb := l.toBitVec.isLt
  rw [← Int.emod_bmod, ← Int.emod_bmod (x := _ + _)]
  congr 1
  split <;> split <;> omega
theorem c_au_h {b : Nat → UInt8} {fb T : Nat} {gvl : Nat → Int32} {vs : List (Option q_V)} (hv : q_vr fb T b gvl vs) (hl : vs.length ≤ 200) :
    ∀ (m i n : Nat) (x1 x3 gsum : Int64), i + m = vs.length → m < n → x1.toInt * 4294967296 + x3.toInt + q_sm1 (vs.drop i) = q_sm1 vs → -(2147483648 * (i : Int)) ≤ x1.toInt → x1.toInt ≤ 2147483648 * (i : Int) → 0 ≤ x3.toInt → x3.toInt ≤ 4294967296 * (i : Int) →
    ∃ g, tw_GR_addUp_h7 (iN vs.length) b gvl n x1 x3 (iN i) gsum = (q_in6 (q_sm1 vs), g) ∧ (q_in6 (q_sm1 vs) = true → g.toInt = q_sm1 vs) := by
  intro m
  induction m with
  | zero =>
    intro i n x1 x3 gsum hi hn hs h1 h2 h3 h4
    obtain ⟨n, rfl⟩ : ∃ m, n = m + 1 := ⟨n - 1, by omega⟩
    have : i = vs.length := by omega
    subst this
    rw [List.drop_length] at hs
    have hs : x1.toInt * 4294967296 + x3.toInt + 0 = q_sm1 vs := hs
    have e1 := q_6h x3
    have e2 : (x1 + (x3 >>> ((32 : Int32).toInt64 &&& 63))).toInt = x1.toInt + x3.toInt / 4294967296 := by
      rw [q_6a (by rw [e1]; omega) (by rw [e1]; omega), e1]
    have e3 := q_6o (x1 + (x3 >>> ((32 : Int32).toInt64 &&& 63))) x3
    rw [e2, show (x1.toInt + x3.toInt / 4294967296) * 4294967296 + x3.toInt % 4294967296 = q_sm1 vs by omega] at e3
    have e4 := q_6h (((x1 + (x3 >>> ((32 : Int32).toInt64 &&& 63))) <<< ((32 : Int32).toInt64 &&& 63)) ||| (x3 &&& 4294967295))
    rw [e3] at e4
    unfold tw_GR_addUp_h7
    rw [if_pos (Int32.le_refl _)]
    by_cases c : -9223372036854775808 ≤ q_sm1 vs ∧ q_sm1 vs < 9223372036854775808
    · rw [q_bm c.1 c.2] at e3 e4
      have q6 : q_in6 (q_sm1 vs) = true := decide_eq_true c
      rw [if_pos (by rw [q_lgz, ← Int64.toInt_inj, e4, e2]; omega), q6]
      exact ⟨_, rfl, fun _ => e3⟩
    · have q6 : q_in6 (q_sm1 vs) = false := decide_eq_false c
      rw [if_neg (by
        rw [q_lgz, ← Int64.toInt_inj, e4, e2, Int.bmod_def]
        split <;> omega), q6]
      exact ⟨_, rfl, fun q => absurd q (by decide)⟩
  | succ m ih =>
    intro i n x1 x3 gsum hi hn hs h1 h2 h3 h4
    obtain ⟨n, rfl⟩ : ∃ m, n = m + 1 := ⟨n - 1, by omega⟩
    have il : i < vs.length := by omega
    have e := List.getElem?_eq_getElem il
    have V := hv i _ e
    rw [List.drop_eq_getElem_cons il, q_smc] at hs
    unfold tw_GR_addUp_h7
    rw [if_neg (by simp (disch := omega) only [iN_a, iN_c, iN_le, iN_lt, iN_eq, iN_i]; omega), iN_c (by omega), show iN i + 1 = iN (i + 1) from iN_a i 1]
    have skip : q_n1v vs[i] = 0 → ∃ g, tw_GR_addUp_h7 (iN vs.length) b gvl n x1 x3 (iN (i + 1)) gsum = (q_in6 (q_sm1 vs), g) ∧ (q_in6 (q_sm1 vs) = true → g.toInt = q_sm1 vs) := by
      intro q
      rw [q] at hs
      exact ih (i + 1) n x1 x3 gsum (by omega) (by omega) (by omega) (by omega) (by omega) (by omega) (by omega)
    cases hz : vs[i] with
    | none =>
      rw [hz] at V skip
      have V : gvl i = 0 := V
      rw [V, q_cl0, if_neg (show ¬ (0 : Int32) = 2 by decide)]
      exact skip rfl
    | some z =>
      rw [hz] at V skip hs
      obtain ⟨P, v1, v2, v3, v4, v5, _⟩ : q_kg fb 162000 T b (gvl i) z := V
      have kn := (q_okn v2).1
      rw [v1, q_co (by omega) kn]
      by_cases c : q_cl z.1 = 2
      · have nb := q_64 (q_nu z.1 z.2)
        have nv : q_n1v (some z) = (q_nu z.1 z.2).toInt := if_pos c
        rw [nv] at hs
        have a1 := q_6h (q_nu z.1 z.2)
        have a2 := q_6l (q_nu z.1 z.2)
        rw [if_pos (show iN (q_cl z.1) = 2 by rw [c]; rfl), q_cnu v2 c v3 v5]
        have b1 : (x1 + (q_nu z.1 z.2 >>> ((32 : Int32).toInt64 &&& 63))).toInt = x1.toInt + (q_nu z.1 z.2).toInt / 4294967296 := by
          rw [q_6a (by rw [a1]; omega) (by rw [a1]; omega), a1]
        have b2 : (x3 + (q_nu z.1 z.2 &&& 4294967295)).toInt = x3.toInt + (q_nu z.1 z.2).toInt % 4294967296 := by
          rw [q_6a (by rw [a2]; omega) (by rw [a2]; omega), a2]
        refine ih (i + 1) n _ _ gsum (by omega) (by omega) ?_ ?_ ?_ ?_ ?_
        · rw [b1, b2]
          omega
        · rw [b1]
          omega
        · rw [b1]
          omega
        · rw [b2]
          omega
        · rw [b2]
          omega
      · rw [if_neg (by have := q_cl7 z.1; simp (disch := omega) only [i_2, iN_a, iN_c, iN_le, iN_lt, iN_eq, iN_i]; omega)]
        exact skip (if_neg c)
theorem c_au {b : Nat → UInt8} {fb T : Nat} {gvl : Nat → Int32} {gsum : Int64} {vs : List (Option q_V)} (hv : q_vr fb T b gvl vs) (hl : vs.length ≤ 200) :
    ∃ g, tw_GR_addUp (iN vs.length) b gvl gsum = (q_in6 (q_sm1 vs), g) ∧ (q_in6 (q_sm1 vs) = true → g.toInt = q_sm1 vs) := by
  have h := c_au_h hv hl vs.length 0 (((iN vs.length).toInt - (0 : Int32).toInt).toNat + 1) 0 0 gsum (by omega) (by rw [iN_i (by omega)]; show _ < ((vs.length : Nat) - (0 : Int)).toNat + 1; omega) (by rw [List.drop_zero]; show 0 * 4294967296 + 0 + q_sm1 vs = q_sm1 vs; omega) (by decide) (by decide) (by decide) (by decide)
  exact h
