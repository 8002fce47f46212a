/-! the pure part: numbers, bytes, places -/
theorem iN_a (a b : Nat) : iN a + iN b = iN (a + b) := (Int32.ofNat_add a b).symm
theorem iN_s {a b : Nat} (h : b ≤ a) : iN a - iN b = iN (a - b) := (Int32.ofNat_sub a b h).symm
theorem iN_s1 {a : Nat} (h : 1 ≤ a) : iN a - 1 = iN (a - 1) := iN_s (b := 1) h
theorem iN_m (a b : Nat) : iN a * iN b = iN (a * b) := (Int32.ofNat_mul a b).symm
theorem iN_c {a : Nat} (ha : a < 2147483648) : (iN a).toNatClampNeg = a := Int32.toNatClampNeg_ofNat_of_lt ha
theorem iN_i {a : Nat} (ha : a < 2147483648) : (iN a).toInt = a := Int32.toInt_ofNat_of_lt ha
theorem iN_le {a b : Nat} (ha : a < 2147483648) (hb : b < 2147483648) : iN a ≤ iN b ↔ a ≤ b := Int32.ofNat_le_iff_le ha hb
theorem iN_lt {a b : Nat} (ha : a < 2147483648) (hb : b < 2147483648) : iN a < iN b ↔ a < b := Int32.ofNat_lt_iff_lt ha hb
theorem iN_eq {a b : Nat} (ha : a < 2147483648) (hb : b < 2147483648) : iN a = iN b ↔ a = b := by
  constructor
  · intro h
    have := congrArg Int32.toNatClampNeg h
    rwa [iN_c ha, iN_c hb] at this
  · intro h
    rw [h]
theorem iN_neg {a : Nat} (h : 2147483648 ≤ a) (h2 : a < 4294967296) : iN a < iN 0 := by
  rw [Int32.lt_iff_toInt_lt]
  show (Int32.ofNat a).toInt < (Int32.ofNat 0).toInt
  rw [Int32.toInt_ofNat', Int32.toInt_ofNat']
  show Int.bmod (a : Int) 4294967296 < Int.bmod ((0 : Nat) : Int) 4294967296
  have : Int.bmod (a : Int) 4294967296 = (a : Int) - 4294967296 := by
    rw [Int.bmod_def]
    omega
  rw [this]
  have : Int.bmod ((0 : Nat) : Int) 4294967296 = 0 := by decide
  rw [this]
  omega
theorem q_all {P : UInt8 → Prop} (h : ∀ n : Nat, n < 256 → P (UInt8.ofNat n)) (x : UInt8) : P x := by
  have := h x.toNat x.toNat_lt
  rwa [UInt8.ofNat_toNat] at this
theorem q_b8' (x : UInt8) : x.toInt8.toInt32 &&& iN 255 = iN x.toNat := q_all (P := fun x => x.toInt8.toInt32 &&& iN 255 = iN x.toNat) (by decide +kernel) x
theorem q_b5' (x : UInt8) : x.toInt8.toInt32 &&& iN 31 = iN (x.toNat % 32) := q_all (P := fun x => x.toInt8.toInt32 &&& iN 31 = iN (x.toNat % 32)) (by decide +kernel) x
theorem q_b0' (x : UInt8) : (x.toInt8.toInt32 = iN 0) = (x = 0) := by
  have := q_all (P := fun x => (x.toInt8.toInt32 = iN 0) ↔ (x = 0)) (by decide +kernel) x
  exact propext this
theorem q_b8 (b : Nat → UInt8) (j : Nat) : by_ b j &&& iN 255 = iN (b j).toNat := q_b8' _
theorem q_b5 (b : Nat → UInt8) (j : Nat) : by_ b j &&& iN 31 = iN ((b j).toNat % 32) := q_b5' _
theorem q_b0 (b : Nat → UInt8) (j : Nat) : (by_ b j = iN 0) = (b j = 0) := q_b0' _
theorem q_u8 (x : UInt8) : x.toNat < 256 := x.toNat_lt
theorem q_bvi {x y : Int32} (h : x.toBitVec.toNat = y.toBitVec.toNat) : x = y := Int32.toBitVec_inj.1 (BitVec.eq_of_toNat_eq h)
theorem q_bv (n : Nat) : (iN n).toBitVec.toNat = n % 4294967296 := by
  show (BitVec.ofNat 32 n).toNat = _
  rw [BitVec.toNat_ofNat]
theorem q_or {a c s : Nat} (ha : a < 2 ^ s) (hc : a + c * 2 ^ s < 4294967296) : iN a ||| iN (c * 2 ^ s) = iN (a + c * 2 ^ s) := by
  apply q_bvi
  show (BitVec.ofNat 32 a ||| BitVec.ofNat 32 (c * 2 ^ s)).toNat = _
  rw [q_bv, BitVec.toNat_or, BitVec.toNat_ofNat, BitVec.toNat_ofNat]
  show (a % 4294967296) ||| (c * 2 ^ s % 4294967296) = _
  rw [Nat.mod_eq_of_lt (by omega), Nat.mod_eq_of_lt (by omega), Nat.mod_eq_of_lt hc, Nat.or_comm, ← Nat.shiftLeft_eq, ← Nat.shiftLeft_add_eq_or_of_lt ha, Nat.add_comm]
theorem q_shl (a s : Nat) (x : Int32) (h : x.toBitVec = (iN a).toBitVec <<< s) : x = iN (a * 2 ^ s) := by
  apply q_bvi
  rw [q_bv, h, BitVec.toNat_shiftLeft, q_bv, Nat.shiftLeft_eq]
  show a % 4294967296 * 2 ^ s % 4294967296 = _
  rw [Nat.mod_mul_mod]
theorem q_s5 (a : Nat) : iN a <<< (iN 5 &&& iN 31) = iN (a * 2 ^ 5) := q_shl a 5 _ rfl
theorem q_s8 (a : Nat) : iN a <<< (iN 8 &&& iN 31) = iN (a * 2 ^ 8) := q_shl a 8 _ rfl
theorem q_s16 (a : Nat) : iN a <<< (iN 16 &&& iN 31) = iN (a * 2 ^ 16) := q_shl a 16 _ rfl
theorem q_s24 (a : Nat) : iN a <<< (iN 24 &&& iN 31) = iN (a * 2 ^ 24) := q_shl a 24 _ rfl
theorem q_rf {p k : Nat} (hp : p < 67108864) (hk : k < 32) : (iN p <<< (iN 5 &&& iN 31)) ||| iN k = iN (32 * p + k) := by
  rw [q_s5]
  have e : ∀ x y : Int32, x ||| y = y ||| x := fun x y => Int32.or_comm x y
  rw [e, q_or (by omega) (by omega)]
  exact congrArg iN (by omega)
theorem q_kd (r : Nat) (h : r < 2147483648) : iN r &&& iN 31 = iN (r % 32) := by
  apply q_bvi
  show (BitVec.ofNat 32 r &&& BitVec.ofNat 32 31).toNat = _
  rw [q_bv, BitVec.toNat_and, BitVec.toNat_ofNat, BitVec.toNat_ofNat]
  show (r % 4294967296) &&& 31 = _
  rw [Nat.mod_eq_of_lt (by omega), Nat.mod_eq_of_lt (by omega)]
  exact Nat.and_two_pow_sub_one_eq_mod r 5
theorem q_pl (r : Nat) (h : r < 2147483648) : ((iN r).toUInt32 >>> ((iN 5).toUInt32 &&& Int32.toUInt32 (iN 31))).toInt32 = iN (r / 32) := by
  apply q_bvi
  show (BitVec.ofNat 32 r >>> 5).toNat = _
  rw [q_bv, BitVec.toNat_ushiftRight, BitVec.toNat_ofNat, Nat.shiftRight_eq_div_pow]
  show (r % 4294967296) / 32 = _
  omega
theorem q_k {p k : Nat} (hp : p < 67108000) (hk : k < 32) : iN (32 * p + k) &&& iN 31 = iN k := by
  rw [q_kd _ (by omega)]
  exact congrArg iN (by omega)
theorem q_p {p k : Nat} (hp : p < 67108000) (hk : k < 32) : ((iN (32 * p + k)).toUInt32 >>> ((iN 5).toUInt32 &&& Int32.toUInt32 (iN 31))).toInt32 = iN p := by
  rw [q_pl _ (by omega)]
  exact congrArg iN (by omega)
/-- four bytes, the lowest first -/
def q_g4 (x0 x1 x2 x3 : UInt8) : Nat := x0.toNat + 256 * x1.toNat + 65536 * x2.toNat + 16777216 * x3.toNat
theorem q_g4or (x0 x1 x2 x3 : UInt8) : ((iN x0.toNat ||| (iN x1.toNat <<< (iN 8 &&& iN 31))) ||| (iN x2.toNat <<< (iN 16 &&& iN 31))) ||| (iN x3.toNat <<< (iN 24 &&& iN 31)) = iN (q_g4 x0 x1 x2 x3) := by
  have h0 := q_u8 x0
  have h1 := q_u8 x1
  have h2 := q_u8 x2
  have h3 := q_u8 x3
  rw [q_s8, q_s16, q_s24, q_or (by omega) (by omega), q_or (by omega) (by omega), q_or (by omega) (by omega)]
  unfold q_g4
  exact congrArg iN (by omega)
def q_l4 (n : Nat) : List UInt8 := [UInt8.ofNat n, UInt8.ofNat (n / 256), UInt8.ofNat (n / 65536), UInt8.ofNat (n / 16777216)]
theorem q_l4g {n : Nat} (h : n < 4294967296) : q_g4 (UInt8.ofNat n) (UInt8.ofNat (n / 256)) (UInt8.ofNat (n / 65536)) (UInt8.ofNat (n / 16777216)) = n := by
  unfold q_g4
  rw [UInt8.toNat_ofNat', UInt8.toNat_ofNat', UInt8.toNat_ofNat', UInt8.toNat_ofNat']
  omega
theorem q_l4l (n : Nat) : (q_l4 n).length = 4 := rfl
theorem q_4lt (x0 x1 x2 x3 : UInt8) : q_g4 x0 x1 x2 x3 < 4294967296 := by
  have h0 := q_u8 x0
  have h1 := q_u8 x1
  have h2 := q_u8 x2
  have h3 := q_u8 x3
  unfold q_g4
  omega
/-- bytes that lie in the class's store, and in the reference's -/
def sb (b : Nat → UInt8) : Nat → List UInt8 → Prop
  | _, [] => True
  | p, x :: l => b p = x ∧ sb b (p + 1) l
def sm (st : Nat → Int32) : Nat → List UInt8 → Prop
  | _, [] => True
  | p, x :: l => st p = iN x.toNat ∧ sm st (p + 1) l
theorem sb_c {b : Nat → UInt8} {p : Nat} {x : UInt8} {l : List UInt8} : sb b p (x :: l) ↔ b p = x ∧ sb b (p + 1) l := Iff.rfl
theorem sm_c {st : Nat → Int32} {p : Nat} {x : UInt8} {l : List UInt8} : sm st p (x :: l) ↔ st p = iN x.toNat ∧ sm st (p + 1) l := Iff.rfl
theorem sb_ap {b : Nat → UInt8} {l m : List UInt8} {p : Nat} : sb b p (l ++ m) ↔ sb b p l ∧ sb b (p + l.length) m := by
  induction l generalizing p with
  | nil => simp [sb]
  | cons x l ih =>
    rw [List.cons_append, sb_c, sb_c, ih, List.length_cons, and_assoc, Nat.add_assoc p 1, Nat.add_comm 1]
theorem sm_ap {st : Nat → Int32} {l m : List UInt8} {p : Nat} : sm st p (l ++ m) ↔ sm st p l ∧ sm st (p + l.length) m := by
  induction l generalizing p with
  | nil => simp [sm]
  | cons x l ih =>
    rw [List.cons_append, sm_c, sm_c, ih, List.length_cons, and_assoc, Nat.add_assoc p 1, Nat.add_comm 1]
theorem sb_fr {b c : Nat → UInt8} {l : List UInt8} {p : Nat} (h : sb b p l) (e : ∀ i, p ≤ i → i < p + l.length → c i = b i) : sb c p l := by
  induction l generalizing p with
  | nil => trivial
  | cons x l ih =>
    rw [List.length_cons] at e
    exact ⟨(e p (Nat.le_refl _) (by omega)).trans h.1, ih h.2 (fun i h1 h2 => e i (by omega) (by omega))⟩
theorem sm_fr {b c : Nat → Int32} {l : List UInt8} {p : Nat} (h : sm b p l) (e : ∀ i, p ≤ i → i < p + l.length → c i = b i) : sm c p l := by
  induction l generalizing p with
  | nil => trivial
  | cons x l ih =>
    rw [List.length_cons] at e
    exact ⟨(e p (Nat.le_refl _) (by omega)).trans h.1, ih h.2 (fun i h1 h2 => e i (by omega) (by omega))⟩
theorem sb_g {b : Nat → UInt8} {l : List UInt8} {p i : Nat} (h : sb b p l) (hi : i < l.length) : b (p + i) = l[i] := by
  induction l generalizing p i with
  | nil => exact absurd hi (Nat.not_lt_zero _)
  | cons x l ih =>
    cases i with
    | zero => exact h.1
    | succ i =>
      have := ih h.2 (Nat.lt_of_succ_lt_succ hi)
      rw [List.getElem_cons_succ, ← this]
      exact congrArg b (by omega)
theorem sm_g {b : Nat → Int32} {l : List UInt8} {p i : Nat} (h : sm b p l) (hi : i < l.length) : b (p + i) = iN (l[i]).toNat := by
  induction l generalizing p i with
  | nil => exact absurd hi (Nat.not_lt_zero _)
  | cons x l ih =>
    cases i with
    | zero => exact h.1
    | succ i =>
      have := ih h.2 (Nat.lt_of_succ_lt_succ hi)
      rw [List.getElem_cons_succ, ← this]
      exact congrArg b (by omega)
theorem sb_of {b : Nat → UInt8} {l : List UInt8} {p : Nat} (h : ∀ i (hi : i < l.length), b (p + i) = l[i]) : sb b p l := by
  induction l generalizing p with
  | nil => trivial
  | cons x l ih =>
    refine ⟨h 0 (Nat.zero_lt_succ _), ih (fun i hi => ?_)⟩
    have := h (i + 1) (Nat.succ_lt_succ hi)
    rw [List.getElem_cons_succ] at this
    rw [← this]
    exact congrArg b (by omega)
theorem sm_of {b : Nat → Int32} {l : List UInt8} {p : Nat} (h : ∀ i (hi : i < l.length), b (p + i) = iN (l[i]).toNat) : sm b p l := by
  induction l generalizing p with
  | nil => trivial
  | cons x l ih =>
    refine ⟨h 0 (Nat.zero_lt_succ _), ih (fun i hi => ?_)⟩
    have := h (i + 1) (Nat.succ_lt_succ hi)
    rw [List.getElem_cons_succ] at this
    rw [← this]
    exact congrArg b (by omega)
theorem sb_l4 {b : Nat → UInt8} {p n : Nat} (h : sb b p (q_l4 n)) (hn : n < 4294967296) : q_g4 (b p) (b (p + 1)) (b (p + 2)) (b (p + 3)) = n := by
  obtain ⟨h0, h1, h2, h3, _⟩ := h
  rw [h0, h1, show p + 2 = p + 1 + 1 from rfl, h2, show p + 3 = p + 1 + 1 + 1 from rfl, h3]
  exact q_l4g hn
