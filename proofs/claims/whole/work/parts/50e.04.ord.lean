/-! the pure part: ORDER of bytes and numbers -/
def q_ob : List UInt8 → List UInt8 → Int32
  | [], [] => 0
  | [], _ :: _ => -1
  | _ :: _, [] => 1
  | x :: a, y :: c => if x = y then q_ob a c else if y.toNat ≤ x.toNat then 1 else -1
def q_cm : List UInt8 → List UInt8 → Nat
  | x :: a, y :: c => if x = y then q_cm a c + 1 else 0
  | _, _ => 0
theorem q_obl (l m : List UInt8) : q_ob l m = if l.length ≤ q_cm l m then (if m.length ≤ l.length then (if l.length ≤ m.length then 0 else 1) else -1)
    else if m.length ≤ q_cm l m then (if m.length ≤ l.length then (if l.length ≤ m.length then 0 else 1) else -1)
    else if (m.getD (q_cm l m) 0).toNat ≤ (l.getD (q_cm l m) 0).toNat then 1 else -1 := by
  induction l generalizing m with
  | nil => cases m <;> simp [q_ob, q_cm]
  | cons x l ih =>
    cases m with
    | nil => simp [q_ob, q_cm]
    | cons y m =>
      unfold q_ob q_cm
      by_cases e : x = y
      · simp only [if_pos e, ih m, List.length_cons, Nat.add_le_add_iff_right, List.getD_cons_succ]
      · simp only [if_neg e]
        simp
theorem q_cml (l m : List UInt8) : q_cm l m ≤ l.length ∧ q_cm l m ≤ m.length := by
  induction l generalizing m with
  | nil => cases m <;> simp [q_cm]
  | cons x l ih =>
    cases m with
    | nil => simp [q_cm]
    | cons y m =>
      unfold q_cm
      have := ih m
      split
      · simp only [List.length_cons]
        omega
      · exact ⟨Nat.zero_le _, Nat.zero_le _⟩
/-- the difference of two bytes -/
theorem q_dt (x y : Nat) (hx : x < 256) (hy : y < 256) : (iN x - iN y).toInt = (x : Int) - y := by
  rw [Int32.toInt_sub, iN_i (by omega), iN_i (by omega), Int.bmod_def]
  omega
theorem q_d0 (x y : Nat) (hx : x < 256) (hy : y < 256) : (iN x - iN y = iN 0) = (x = y) := by
  refine propext ⟨fun h => ?_, fun h => ?_⟩
  · have := congrArg Int32.toInt h
    rw [q_dt x y hx hy, iN_i (by omega)] at this
    omega
  · apply Int32.toInt_inj.1
    rw [q_dt x y hx hy, iN_i (by omega)]
    omega
theorem q_d1 (x y : Nat) (hx : x < 256) (hy : y < 256) : (iN 0 ≤ iN x - iN y) = (y ≤ x) := by
  rw [Int32.le_iff_toInt_le, q_dt x y hx hy, iN_i (by omega)]
  refine propext ⟨fun h => by omega, fun h => by omega⟩
theorem q_jc {x y : Nat} (hx : x < 2147483648) (hy : y < 2147483648) : tw_JI_compare (iN x) (iN y) = if y ≤ x then (if x ≤ y then 0 else 1) else -1 := by
  unfold tw_JI_compare
  simp (disch := omega) only [iN_a, iN_c, iN_le, iN_lt, iN_eq, iN_i]
  by_cases h : y ≤ x
  · rw [if_pos h, if_pos h]
    by_cases h2 : x = y
    · rw [if_pos h2, if_pos (by omega)]
    · rw [if_neg h2, if_neg (by omega)]
  · rw [if_neg h, if_neg h]
theorem q_cb_h {b : Nat → UInt8} {a c aE cE x5 : Nat} : ∀ (l m : List UInt8) (i n : Nat), sb b (a + i) l → sb b (c + i) m → aE = a + i + l.length → cE = c + i + m.length → x5 = i + min l.length m.length → aE ≤ 202000 → cE ≤ 202000 → min l.length m.length < n →
    tw_ST_compareBytes_h49 b (iN a) (iN aE) (iN c) (iN cE) (iN x5) n (iN i) = q_ob l m := by
  intro l
  induction l with
  | nil =>
    intro m i n _ _ h1 h2 h3 h4 h5 hn
    obtain ⟨n, rfl⟩ : ∃ m, n = m + 1 := ⟨n - 1, by omega⟩
    unfold tw_ST_compareBytes_h49
    simp only [List.length_nil, Nat.zero_min, Nat.add_zero] at *
    simp (disch := omega) only [i_0, iN_a, iN_c, iN_le, iN_lt, iN_eq, iN_i, iN_s, q_jc]
    rw [if_pos (by omega)]
    cases m with
    | nil =>
      simp only [List.length_nil] at *
      rw [if_pos (by omega), if_pos (by omega)]
      rfl
    | cons y m =>
      simp only [List.length_cons] at *
      rw [if_neg (by omega)]
      rfl
  | cons x l ih =>
    intro m i n hs1 hs2 h1 h2 h3 h4 h5 hn
    obtain ⟨n, rfl⟩ : ∃ m, n = m + 1 := ⟨n - 1, by omega⟩
    cases m with
    | nil =>
      unfold tw_ST_compareBytes_h49
      simp only [List.length_nil, List.length_cons, Nat.min_zero, Nat.add_zero] at *
      simp (disch := omega) only [i_0, iN_a, iN_c, iN_le, iN_lt, iN_eq, iN_i, iN_s, q_jc]
      rw [if_pos (by omega), if_pos (by omega), if_neg (by omega)]
      rfl
    | cons y m =>
      unfold tw_ST_compareBytes_h49
      simp only [List.length_cons] at *
      have hx := q_u8 x
      have hy := q_u8 y
      simp (disch := omega) only [i_0, i_1, i_255, iN_a, iN_c, iN_le, iN_lt, iN_eq, iN_i, q_b8, hs1.1, hs2.1, q_d0, q_d1]
      rw [if_neg (by omega)]
      unfold q_ob
      by_cases e : x = y
      · rw [if_pos (by rw [e]), if_pos e]
        refine ih m (i + 1) n ?_ ?_ (by omega) (by omega) (by omega) h4 h5 (by omega)
        · rw [← Nat.add_assoc]
          exact hs1.2
        · rw [← Nat.add_assoc]
          exact hs2.2
      · rw [if_neg (fun q => e (UInt8.toNat_inj.1 q)), if_neg e]
        rfl
theorem q_cb {b : Nat → UInt8} {a c : Nat} {l m : List UInt8} (h1 : sb b a l) (h2 : sb b c m) (ha : a + l.length ≤ 202000) (hc : c + m.length ≤ 202000) :
    tw_ST_compareBytes b (iN a) (iN (a + l.length)) (iN c) (iN (c + m.length)) = q_ob l m := by
  unfold tw_ST_compareBytes
  simp (disch := omega) only [i_0, i_202000, iN_a, iN_c, iN_le, iN_lt, iN_eq, iN_i, iN_s]
  rw [show (if c + m.length - c < a + l.length - a then iN (c + m.length - c) else iN (a + l.length - a)) = iN (min l.length m.length) by split <;> exact congrArg iN (by omega)]
  simp (disch := omega) only [iN_a, iN_c, iN_le, iN_lt, iN_eq, iN_i]
  rw [if_neg (by omega), if_neg (by omega), if_neg (by omega), if_pos (by omega)]
  exact q_cb_h l m 0 _ h1 h2 (by omega) (by omega) (by omega) ha hc (by omega)
theorem r_ob_h {fu : Nat} {K : Int32 → Option Int32} {st : Nat → Int32} {a c la lc : Nat} : ∀ (l m : List UInt8) (i n : Nat), sm st (a + i) l → sm st (c + i) m → la = i + l.length → lc = i + m.length → a + la ≤ 136400 → c + lc ≤ 136400 → l.length < n →
    tw_MO_orderBytes_h3 fu K st (iN a) (iN la) (iN c) (iN lc) n (iN i) = K (iN (i + q_cm l m)) := by
  intro l
  induction l with
  | nil =>
    intro m i n _ _ h1 h2 h3 h4 hn
    obtain ⟨n, rfl⟩ : ∃ m, n = m + 1 := ⟨n - 1, by omega⟩
    unfold tw_MO_orderBytes_h3
    simp only [List.length_nil, Nat.add_zero] at *
    simp (disch := omega) only [iN_a, iN_c, iN_le, iN_lt, iN_eq, iN_i]
    rw [if_pos (by omega)]
    cases m <;> rfl
  | cons x l ih =>
    intro m i n hs1 hs2 h1 h2 h3 h4 hn
    obtain ⟨n, rfl⟩ : ∃ m, n = m + 1 := ⟨n - 1, by omega⟩
    cases m with
    | nil =>
      unfold tw_MO_orderBytes_h3
      simp only [List.length_nil, List.length_cons, Nat.add_zero] at *
      simp (disch := omega) only [iN_a, iN_c, iN_le, iN_lt, iN_eq, iN_i]
      rw [if_neg (by omega), if_pos (by omega)]
      rfl
    | cons y m =>
      unfold tw_MO_orderBytes_h3
      simp only [List.length_cons] at *
      have hx := q_u8 x
      have hy := q_u8 y
      simp (disch := omega) only [i_0, i_1, i_136400, iN_a, iN_c, iN_le, iN_lt, iN_eq, iN_i, hs1.1, hs2.1]
      rw [if_neg (by omega), if_neg (by omega), if_pos ⟨by omega, by omega⟩, if_pos ⟨by omega, by omega⟩]
      unfold q_cm
      by_cases e : x = y
      · rw [if_pos (by rw [e]), if_pos e, ih m (i + 1) n (by rw [← Nat.add_assoc]; exact hs1.2) (by rw [← Nat.add_assoc]; exact hs2.2) (by omega) (by omega) h3 h4 (by omega)]
        exact congrArg K (congrArg iN (by omega))
      · rw [if_neg (fun q => e (UInt8.toNat_inj.1 q)), if_neg e]
        rfl
theorem sm_gd {b : Nat → Int32} {l : List UInt8} {p i : Nat} (h : sm b p l) (hi : i < l.length) : b (p + i) = iN (l.getD i 0).toNat := by
  rw [sm_g h hi, List.getD_eq_getElem?_getD, List.getElem?_eq_getElem hi]
  rfl
theorem r_ob {fu : Nat} {st : Nat → Int32} {a c : Nat} {l m : List UInt8} (h1 : sm st a l) (h2 : sm st c m) (ha : a + l.length ≤ 136400) (hc : c + m.length ≤ 136400) (hf : l.length < fu) :
    tw_MO_orderBytes fu st (iN a) (iN l.length) (iN c) (iN m.length) = some (q_ob l m) := by
  unfold tw_MO_orderBytes
  rw [i_0, r_ob_h l m 0 fu h1 h2 (by omega) (by omega) ha hc hf, q_obl]
  obtain ⟨k1, k2⟩ := q_cml l m
  simp (disch := omega) only [i_0, i_136400, iN_a, iN_c, iN_le, iN_lt, iN_eq, iN_i, Nat.zero_add]
  by_cases e1 : l.length ≤ q_cm l m
  · rw [if_pos e1, if_pos e1]
    split
    · split <;> rfl
    · rfl
  · rw [if_neg e1, if_neg e1]
    by_cases e2 : m.length ≤ q_cm l m
    · rw [if_pos e2, if_pos e2]
      split
      · split <;> rfl
      · rfl
    · rw [if_neg e2, if_neg e2, if_pos ⟨by omega, by omega⟩, if_pos ⟨by omega, by omega⟩, sm_gd h1 (by omega), sm_gd h2 (by omega)]
      have g1 := q_u8 (l.getD (q_cm l m) 0)
      have g2 := q_u8 (m.getD (q_cm l m) 0)
      simp (disch := omega) only [iN_a, iN_c, iN_le, iN_lt, iN_eq, iN_i]
      split <;> rfl
/-- classes -/
def q_cl (k : UInt8) : Nat := if k = 2 then 3 else if k = 3 then 4 else if k = 4 then 5 else if k = 8 then 6 else if k = 10 then 1 else if k = 16 then 2 else if k = 18 then 2 else 0
theorem q_cl7 (k : UInt8) : q_cl k < 7 := by
  unfold q_cl
  repeat' split
  all_goals decide
theorem q_ko (k : UInt8) (n : Nat) (h : n < 256) : (k.toNat = n) = (k = UInt8.ofNat n) := by
  refine propext ⟨fun e => ?_, fun e => ?_⟩
  · apply UInt8.toNat_inj.1
    rw [e, UInt8.toNat_ofNat', Nat.mod_eq_of_lt h]
  · rw [e, UInt8.toNat_ofNat', Nat.mod_eq_of_lt h]
theorem q_co {p : Nat} {k : UInt8} (hp : p < 67108000) (hk : k.toNat < 32) : tw_ST_classOf (iN (32 * p + k.toNat)) = iN (q_cl k) := by
  unfold tw_ST_classOf
  simp (disch := omega) only [i_0, i_1, i_2, i_3, i_4, i_5, i_6, i_8, i_10, i_16, i_18, i_31, q_k, iN_a, iN_c, iN_le, iN_lt, iN_eq, iN_i, q_ko]
  unfold q_cl
  repeat' split
  all_goals first | rfl | simp_all
theorem r_cl (k : UInt8) : tw_MO_classOf (iN k.toNat) = iN (q_cl k) := by
  have := q_u8 k
  unfold tw_MO_classOf
  simp (disch := omega) only [i_0, i_1, i_2, i_3, i_4, i_5, i_6, i_8, i_10, i_16, i_18, iN_a, iN_c, iN_le, iN_lt, iN_eq, iN_i, q_ko]
  unfold q_cl
  repeat' split
  all_goals first | rfl | simp_all
/-- numbers -/
def q_nv : List UInt8 → Nat
  | [] => 0
  | x :: l => x.toNat + 256 * q_nv l
def q_nu (k : UInt8) (v : List UInt8) : Int64 := if k = 16 then (iN (q_nv v)).toInt64 else Int64.ofNat (q_nv v)
theorem q_nvl (l : List UInt8) : q_nv l < 256 ^ l.length := by
  induction l with
  | nil => exact Nat.one_pos
  | cons x l ih =>
    have := q_u8 x
    unfold q_nv
    rw [List.length_cons, Nat.pow_succ]
    omega
theorem q_lbv {x y : Int64} (h : x.toBitVec.toNat = y.toBitVec.toNat) : x = y := Int64.toBitVec_inj.1 (BitVec.eq_of_toNat_eq h)
theorem q_lb (n : Nat) : (Int64.ofNat n).toBitVec.toNat = n % 18446744073709551616 := by
  show (BitVec.ofNat 64 n).toNat = _
  rw [BitVec.toNat_ofNat]
theorem q_lor {a c s : Nat} (ha : a < 2 ^ s) (hc : a + c * 2 ^ s < 18446744073709551616) : Int64.ofNat (c * 2 ^ s) ||| Int64.ofNat a = Int64.ofNat (a + c * 2 ^ s) := by
  apply q_lbv
  show (BitVec.ofNat 64 (c * 2 ^ s) ||| BitVec.ofNat 64 a).toNat = _
  rw [q_lb, BitVec.toNat_or, BitVec.toNat_ofNat, BitVec.toNat_ofNat]
  show (c * 2 ^ s % 18446744073709551616) ||| (a % 18446744073709551616) = _
  rw [Nat.mod_eq_of_lt (by omega), Nat.mod_eq_of_lt (by omega), Nat.mod_eq_of_lt hc, ← Nat.shiftLeft_eq, ← Nat.shiftLeft_add_eq_or_of_lt ha, Nat.add_comm]
theorem q_sx (n : Nat) (h : n < 4294967296) : (iN n).toInt64.toBitVec.toNat = if n < 2147483648 then n else n + 18446744069414584320 := by
  show ((BitVec.ofNat 32 n).signExtend 64).toNat = _
  rw [BitVec.toNat_signExtend, BitVec.toNat_setWidth, BitVec.msb_eq_decide, BitVec.toNat_ofNat]
  show (n % 4294967296) % 18446744073709551616 + (if decide (2147483648 ≤ n % 4294967296) = true then 18446744073709551616 - 4294967296 else 0) = _
  rw [Nat.mod_eq_of_lt h]
  by_cases e : n < 2147483648
  · rw [if_pos e, if_neg (by simp; omega)]
    omega
  · rw [if_neg e, if_pos (by simp; omega)]
    omega
theorem q_hi (n : Nat) (h : n < 4294967296) : (iN n).toInt64 <<< ((iN 32).toInt64 &&& 63) = Int64.ofNat (n * 2 ^ 32) := by
  apply q_lbv
  show ((iN n).toInt64.toBitVec <<< 32).toNat = _
  rw [q_lb, BitVec.toNat_shiftLeft, q_sx n h, Nat.shiftLeft_eq]
  show _ % 18446744073709551616 = _
  split <;> omega
theorem q_lw (n : Nat) (h : n < 4294967296) : (iN n).toInt64 &&& 4294967295 = Int64.ofNat n := by
  apply q_lbv
  show ((iN n).toInt64.toBitVec &&& (4294967295 : Int64).toBitVec).toNat = _
  rw [q_lb, BitVec.toNat_and, q_sx n h]
  show _ &&& (2 ^ 32 - 1) = _
  rw [Nat.and_two_pow_sub_one_eq_mod]
  split <;> omega
theorem q_nv4 (a c d e : UInt8) : q_nv [a, c, d, e] = q_g4 a c d e := by
  unfold q_nv q_nv q_nv q_nv q_nv q_g4
  omega
theorem q_nv8 (a c d e f g h i : UInt8) : q_nv [a, c, d, e, f, g, h, i] = q_g4 a c d e + q_g4 f g h i * 2 ^ 32 := by
  unfold q_nv q_nv q_nv q_nv q_nv q_nv q_nv q_nv q_nv q_g4
  omega
theorem q_l4e {v : List UInt8} (h : v.length = 4) : ∃ a c d e, v = [a, c, d, e] := by
  match v, h with
  | [a, c, d, e], _ => exact ⟨a, c, d, e, rfl⟩
theorem q_l8e {v : List UInt8} (h : v.length = 8) : ∃ a c d e f g i j, v = [a, c, d, e, f, g, i, j] := by
  match v, h with
  | [a, c, d, e, f, g, i, j], _ => exact ⟨a, c, d, e, f, g, i, j, rfl⟩
theorem q_n16 {b : Nat → UInt8} {p : Nat} {v : List UInt8} (hv : v.length = 4) (h : sb b p v) (hp : p + 4 ≤ 202000) : tw_ST_number b (iN (32 * p + 16)) = q_nu 16 v := by
  obtain ⟨x0, x1, x2, x3, rfl⟩ := q_l4e hv
  obtain ⟨h0, h1, h2, h3, _⟩ := h
  unfold tw_ST_number tw_ST_kindOf tw_ST_placeOf
  simp (disch := omega) only [i_4, i_5, i_18, i_31, q_k, q_p, iN_a, iN_c, iN_le, iN_lt, iN_eq, iN_i]
  rw [if_neg (by omega), q_int (by omega), h0, h1, show p + 2 = p + 1 + 1 from rfl, h2, show p + 3 = p + 1 + 1 + 1 from rfl, h3]
  unfold q_nu
  rw [if_pos rfl, q_nv4]
theorem q_n18 {b : Nat → UInt8} {p : Nat} {v : List UInt8} (hv : v.length = 8) (h : sb b p v) (hp : p + 8 ≤ 202000) : tw_ST_number b (iN (32 * p + 18)) = q_nu 18 v := by
  obtain ⟨x0, x1, x2, x3, x4, x5, x6, x7, rfl⟩ := q_l8e hv
  obtain ⟨h0, h1, h2, h3, h4, h5, h6, h7, _⟩ := h
  unfold tw_ST_number tw_ST_kindOf tw_ST_placeOf
  simp (disch := omega) only [i_4, i_5, i_18, i_31, i_32, q_k, q_p, iN_a, iN_c, iN_le, iN_lt, iN_eq, iN_i]
  rw [if_pos trivial, q_int (by omega), q_int (by omega), q_hi _ (q_4lt _ _ _ _), q_lw _ (q_4lt _ _ _ _), q_lor (q_4lt _ _ _ _)]
  · unfold q_nu
    rw [if_neg (by decide), q_nv8]
    rw [h0, h1, show p + 2 = p + 1 + 1 from rfl, h2, show p + 3 = p + 1 + 1 + 1 from rfl, h3, show p + 4 = p + 1 + 1 + 1 + 1 from rfl, h4, h5, show p + 1 + 1 + 1 + 1 + 2 = p + 1 + 1 + 1 + 1 + 1 + 1 from rfl, h6, show p + 1 + 1 + 1 + 1 + 3 = p + 1 + 1 + 1 + 1 + 1 + 1 + 1 from rfl, h7]
  · have g1 := q_4lt (b p) (b (p + 1)) (b (p + 2)) (b (p + 3))
    have g2 := q_4lt (b (p + 4)) (b (p + 4 + 1)) (b (p + 4 + 2)) (b (p + 4 + 3))
    omega
theorem q_sm (x : UInt8) : (iN x.toNat).toInt64 = Int64.ofNat x.toNat := by
  have := q_u8 x
  apply q_lbv
  rw [q_sx _ (by omega), q_lb, if_pos (by omega)]
  omega
theorem q_s64 (n : Nat) : Int64.ofNat n <<< ((iN 8).toInt64 &&& 63) = Int64.ofNat (n * 2 ^ 8) := by
  apply q_lbv
  show ((Int64.ofNat n).toBitVec <<< 8).toNat = _
  rw [q_lb, BitVec.toNat_shiftLeft, q_lb, Nat.shiftLeft_eq]
  show (n % 18446744073709551616) * 2 ^ 8 % 18446744073709551616 = _
  rw [Nat.mod_mul_mod]
theorem r_nst (a : Nat) (x : UInt8) (h : a < 72057594037927936) : (Int64.ofNat a <<< ((iN 8).toInt64 &&& 63)) ||| (iN x.toNat).toInt64 = Int64.ofNat (x.toNat + 256 * a) := by
  have := q_u8 x
  rw [q_s64, q_sm, q_lor (by omega) (by omega)]
  exact congrArg Int64.ofNat (by omega)
theorem q_m1a (x : Int32) : x + (-1) = x - iN 1 := by rw [← i_1, Int32.sub_eq_add_neg]
theorem r_n18_h {fu : Nat} {K : Int64 → Int32 → Option Int64} {st : Nat → Int32} {p : Nat} : ∀ (j : Nat) (w v : List UInt8) (n : Nat), sm st p w → w.length = j → j + v.length = 8 → p + 8 ≤ 136400 → j < n →
    tw_MO_number_h33 fu K st (iN p) n (Int64.ofNat (q_nv v)) (iN j - iN 1) = K (Int64.ofNat (q_nv (w ++ v))) (iN 0 - iN 1) := by
  intro j
  induction j with
  | zero =>
    intro w v n h hw _ _ hn
    obtain ⟨n, rfl⟩ : ∃ m, n = m + 1 := ⟨n - 1, by omega⟩
    have : w = [] := List.eq_nil_of_length_eq_zero hw
    subst this
    unfold tw_MO_number_h33
    rw [if_pos (by decide)]
    rfl
  | succ j ih =>
    intro w v n h hw hv hp hn
    obtain ⟨n, rfl⟩ : ∃ m, n = m + 1 := ⟨n - 1, by omega⟩
    obtain ⟨u, y, rfl⟩ : ∃ u y, w = u ++ [y] := by
      have hne : w ≠ [] := by
        intro e
        rw [e] at hw
        cases hw
      exact ⟨w.dropLast, w.getLast hne, (List.dropLast_concat_getLast hne).symm⟩
    have hu : u.length = j := by
      simp at hw
      exact hw
    have h' := sm_ap.1 h
    have hy : st (p + j) = iN y.toNat := by
      have := h'.2.1
      rwa [hu] at this
    unfold tw_MO_number_h33
    have hb : q_nv v < 72057594037927936 := by
      have h1 := q_nvl v
      have h2 : 256 ^ v.length ≤ 256 ^ 7 := Nat.pow_le_pow_right (by omega) (by omega)
      have : (256 : Nat) ^ 7 = 72057594037927936 := rfl
      omega
    rw [iN_s (by omega), Nat.add_sub_cancel]
    simp (disch := omega) only [i_0, i_136400, i_8, iN_a, iN_c, iN_le, iN_lt, iN_eq, iN_i]
    rw [if_neg (by omega), if_pos ⟨by omega, by omega⟩, hy, r_nst _ _ hb]
    rw [q_m1a]
    have := ih u (y :: v) n h'.1 hu (by rw [List.length_cons]; omega) hp (by omega)
    rw [List.append_assoc]
    exact this
theorem r_num {fu : Nat} {st : Nat → Int32} {d p : Nat} {k : UInt8} {v : List UInt8} (ho : q_ok d k v) (hk : q_cl k = 2 ∨ q_cl k = 6) (h : sm st p v) (hp : p + v.length ≤ 136400) (hf : 10 ≤ fu) :
    tw_MO_number fu st (iN k.toNat) (iN p) = some (q_nu k v) := by
  have h3 : k ≠ 3 := by
    intro e
    rw [e] at hk
    exact absurd hk (by decide)
  have h4 : k ≠ 4 := by
    intro e
    rw [e] at hk
    exact absurd hk (by decide)
  have := q_okl ho h3 h4
  unfold q_lf at this
  rcases this with ⟨rfl, hv⟩ | ⟨rfl, hv⟩ | ⟨rfl, hv⟩ | ⟨rfl, hv⟩ | ⟨rfl, t, rfl⟩
  · obtain ⟨x0, x1, x2, x3, rfl⟩ := q_l4e hv
    obtain ⟨h0, h1, h2, h3, _⟩ := h
    unfold tw_MO_number
    have := r_wh4 (fu := fu) h0 h1 h2 h3 (by rw [hv] at hp; omega)
    simp only [this]
    show some _ = _
    unfold q_nu
    rw [if_pos rfl, q_nv4]
  · unfold tw_MO_number
    show tw_MO_number_h33 fu _ st (iN p) fu (Int64.ofNat (q_nv [])) (iN 8 - iN 1) = _
    rw [r_n18_h 8 v [] fu h hv rfl (by omega) (by omega)]
    show some _ = _
    rw [List.append_nil]
    rfl
  · have : ∃ y, v = [y] := by
      rcases hv with rfl | rfl
      · exact ⟨_, rfl⟩
      · exact ⟨_, rfl⟩
    obtain ⟨y, rfl⟩ := this
    unfold tw_MO_number
    simp only [List.length_cons, List.length_nil] at hp
    simp (disch := omega) only [i_0, i_136400, iN_a, iN_c, iN_le, iN_lt, iN_eq, iN_i]
    show (if _ then _ else none) = _
    rw [if_pos ⟨by omega, by omega⟩, h.1, q_sm]
    rfl
  · exact absurd hk (by decide)
  · exact absurd hk (by decide)
