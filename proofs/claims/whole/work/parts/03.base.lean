/-! own words and rows that every method's contract uses -/
theorem b2i_nar (b : Bool) : narrow .boolean (.int (b2i b)) = .int (b2i b) := by cases b <;> rfl
theorem b2i_0 {b : Bool} : b2i b = 0 ↔ b = false := by cases b <;> decide
theorem b2i_n0 {b : Bool} : ¬ b2i b = 0 ↔ b = true := by cases b <;> decide
theorem b2i_fit (b : Bool) : fits .boolean (.int (b2i b)) = true := by cases b <;> rfl
/-- a byte array's contents -/
theorem by_upd {b : Nat → UInt8} {k : Nat} {x : Int32} : upd (by_ b) k (vp_nar .byte x) = by_ (ub b k x) := by
  funext j
  unfold by_ ub upd
  rw [vp_nar_byte]
  split
  · rfl
  · rfl
theorem by_fit (b : Nat → UInt8) (j : Nat) : fits .byte (.int (by_ b j)) = true := by
  unfold by_
  generalize (b j).toInt8 = x
  have h : x = x.toInt32.toInt8 := (Int8.toInt8_toInt32 x).symm
  rw [h]
  exact pk_fb x.toInt32
theorem by_cpy {f g : Nat → UInt8} {sp dp n : Nat} : va_cpy (by_ f) (by_ g) sp dp n = by_ (va_cpy f g sp dp n) := by
  funext j
  show (if dp ≤ j ∧ j < dp + n then by_ f (sp + (j - dp)) else by_ g j) = (if dp ≤ j ∧ j < dp + n then f (sp + (j - dp)) else g j).toInt8.toInt32
  split <;> rfl
theorem in_pn {i N : Int32} {n : Nat} (h0 : 0 ≤ i) (h1 : ¬ N ≤ i) (hN : N.toInt = n) : vp_in i n := by
  rw [vp_in_iff]
  have a := Int32.le_iff_toInt_le.mp h0
  have b : ¬ N.toInt ≤ i.toInt := fun q => h1 (Int32.le_iff_toInt_le.mpr q)
  have z : (0 : Int32).toInt = 0 := rfl
  omega
theorem lp_up {i b : Int32} {n : Nat} (h : (b.toInt - i.toInt).toNat < n + 1) (c : ¬ b ≤ i) : (b.toInt - (i + 1).toInt).toNat < n := by
  have c1 : i.toInt < b.toInt := by
    rcases Int.lt_or_le i.toInt b.toInt with q | q
    · exact q
    · exact absurd (Int32.le_iff_toInt_le.mpr q) c
  have h1 : b.toInt < 2 ^ 31 := Int32.toInt_lt b
  have h2 : -2 ^ 31 ≤ i.toInt := Int32.le_toInt i
  have e1 : (i + 1).toInt = i.toInt + 1 := by
    rw [Int32.toInt_add]
    show (i.toInt + 1).bmod (2 ^ 32) = i.toInt + 1
    rw [Int.bmod_eq_of_le (by omega) (by omega)]
  rw [e1]
  omega
theorem in_nn {i N : Int32} {n : Nat} (h0 : ¬ i < 0) (h1 : ¬ N ≤ i) (hN : N.toInt = n) : vp_in i n := by
  rw [vp_in_iff]
  have a : ¬ i.toInt < (0 : Int32).toInt := fun q => h0 (Int32.lt_iff_toInt_lt.mpr q)
  have b : ¬ N.toInt ≤ i.toInt := fun q => h1 (Int32.le_iff_toInt_le.mpr q)
  have z : (0 : Int32).toInt = 0 := rfl
  omega
theorem in_np {i N : Int32} {n : Nat} (h0 : ¬ i < 0) (h1 : i < N) (hN : N.toInt = n) : vp_in i n := in_nn h0 (fun q => by
  have a := Int32.lt_iff_toInt_lt.mp h1
  have b := Int32.le_iff_toInt_le.mp q
  omega) hN
theorem i_toInt1 {x N : Int32} (h1 : x < N) : (x + 1).toInt = x.toInt + 1 := by
  have a := Int32.lt_iff_toInt_lt.mp h1
  have b : N.toInt < 2 ^ 31 := Int32.toInt_lt N
  have c : -2 ^ 31 ≤ x.toInt := Int32.le_toInt x
  rw [Int32.toInt_add]
  show (x.toInt + 1).bmod (2 ^ 32) = x.toInt + 1
  rw [Int.bmod_eq_of_le (by omega) (by omega)]
theorem i_lt_of {x N : Int32} (h : ¬ N ≤ x) : x < N := Int32.lt_iff_toInt_lt.mpr (by
  have a : ¬ N.toInt ≤ x.toInt := fun q => h (Int32.le_iff_toInt_le.mpr q)
  omega)
theorem i_up {x N : Int32} (h0 : ¬ x < 0) (h1 : x < N) : ¬ x + 1 < 0 := fun q => by
  have a := Int32.lt_iff_toInt_lt.mp q
  rw [i_toInt1 h1] at a
  have b : ¬ x.toInt < (0 : Int32).toInt := fun q => h0 (Int32.lt_iff_toInt_lt.mpr q)
  have z : (0 : Int32).toInt = 0 := rfl
  omega
theorem i_upn {x N : Int32} (h0 : ¬ x < 0) (h1 : ¬ N ≤ x) : ¬ x + 1 < 0 := i_up h0 (i_lt_of h1)
theorem rl_s {a b c : Nat} (h : a ≤ c) : a ≤ b + c := Nat.le_trans h (Nat.le_add_left _ _)
theorem rl_f {a b c : Nat} (h : a ≤ c) : b + a ≤ b + c := Nat.add_le_add_left h b
theorem rl_l {a b c : Nat} (h : a ≤ c) : a + b ≤ b + c := by omega
theorem i_nn {x : Int32} (h : ¬ x < 0) : 0 ≤ x.toInt := by
  have b : ¬ x.toInt < (0 : Int32).toInt := fun q => h (Int32.lt_iff_toInt_lt.mpr q)
  have z : (0 : Int32).toInt = 0 := rfl
  omega
theorem i_add {a b : Int32} (h1 : -2147483648 ≤ a.toInt + b.toInt) (h2 : a.toInt + b.toInt < 2147483648) : (a + b).toInt = a.toInt + b.toInt := by
  rw [Int32.toInt_add, Int.bmod_eq_of_le (by omega) (by omega)]
theorem i_sub {a b : Int32} (h1 : -2147483648 ≤ a.toInt - b.toInt) (h2 : a.toInt - b.toInt < 2147483648) : (a - b).toInt = a.toInt - b.toInt := by
  rw [Int32.toInt_sub, Int.bmod_eq_of_le (by omega) (by omega)]
theorem in_addp {x L k : Int32} {n : Nat} (h0 : ¬ x < 0) (h1 : x ≤ L) (hk : 0 ≤ k.toInt) (hn : L.toInt + k.toInt < n) (hn2 : (n : Int) < 2147483648) : vp_in (x + k) n := by
  have a := i_nn h0
  have b := Int32.le_iff_toInt_le.mp h1
  rw [vp_in_iff, i_add (by omega) (by omega)]
  omega
theorem in_le {x L : Int32} {n : Nat} (h0 : ¬ x < 0) (h1 : x ≤ L) (hn : L.toInt < n) : vp_in x n := by
  have a := i_nn h0
  have b := Int32.le_iff_toInt_le.mp h1
  rw [vp_in_iff]
  omega
theorem in_cb {a i len N : Int32} {n : Nat} (ha : ¬ a < 0) (hl : len ≤ N - a) (hN : N.toInt = n) (hi0 : ¬ i < 0) (hi : ¬ len ≤ i) : vp_in (a + i) n := by
  have h1 := i_nn ha
  have h2 := i_nn hi0
  have h3 := Int32.le_iff_toInt_le.mp hl
  have h4 := Int32.lt_iff_toInt_lt.mp (i_lt_of hi)
  have h5 : a.toInt < 2 ^ 31 := Int32.toInt_lt a
  have h7 : N.toInt < 2 ^ 31 := Int32.toInt_lt N
  rw [i_sub (by omega) (by omega)] at h3
  rw [vp_in_iff, i_add (by omega) (by omega)]
  omega
theorem i_le_of {x N : Int32} (h : ¬ N < x) : x ≤ N := Int32.le_iff_toInt_le.mpr (by
  have a : ¬ N.toInt < x.toInt := fun q => h (Int32.lt_iff_toInt_lt.mpr q)
  omega)
theorem i_ush (x : Int32) {s : Int32} (k : Nat) (hs : ((s.toUInt32 &&& Int32.toUInt32 31).toBitVec % 32).toNat = k) (hk : 0 < k) : ¬ (x.toUInt32 >>> (s.toUInt32 &&& Int32.toUInt32 31)).toInt32 < 0 := by
  have h := pk_ushr x s k hs
  have h2 : x.toBitVec.toNat < 2 ^ 32 := x.toBitVec.isLt
  generalize (x.toUInt32 >>> (s.toUInt32 &&& Int32.toUInt32 31)).toInt32 = y at h ⊢
  intro q
  have q1 := Int32.lt_iff_toInt_lt.mp q
  have z : (0 : Int32).toInt = 0 := rfl
  have h3 : y.toBitVec.toNat < 2 ^ 31 := by
    rw [h]
    have : 2 ≤ 2 ^ k := by
      cases k with
      | zero => omega
      | succ k => rw [Nat.pow_succ]; have := Nat.one_le_two_pow (n := k); omega
    calc x.toBitVec.toNat / 2 ^ k ≤ x.toBitVec.toNat / 2 := Nat.div_le_div_left this (by decide)
      _ < 2 ^ 31 := by omega
  have h4 : y.toInt = y.toBitVec.toInt := rfl
  rw [BitVec.toInt_eq_toNat_of_lt (by omega)] at h4
  omega
theorem in_pp {i N : Int32} {n : Nat} (h0 : 0 ≤ i) (h1 : i < N) (hN : N.toInt = n) : vp_in i n := by
  rw [vp_in_iff]
  have a := Int32.le_iff_toInt_le.mp h0
  have b := Int32.lt_iff_toInt_lt.mp h1
  have z : (0 : Int32).toInt = 0 := rfl
  omega
/-! an answer taken apart -/
theorem tp1_mk {T1 Z : Type} {x1 : T1} {f : T1 → Z} : tp1 x1 f = f x1 := rfl
theorem tp2_mk {T1 T2 Z : Type} {x1 : T1} {x2 : T2} {f : T1 → T2 → Z} : tp2 (x1, x2) f = f x1 x2 := rfl
theorem tp3_mk {T1 T2 T3 Z : Type} {x1 : T1} {x2 : T2} {x3 : T3} {f : T1 → T2 → T3 → Z} : tp3 (x1, x2, x3) f = f x1 x2 x3 := rfl
theorem tp4_mk {T1 T2 T3 T4 Z : Type} {x1 : T1} {x2 : T2} {x3 : T3} {x4 : T4} {f : T1 → T2 → T3 → T4 → Z} : tp4 (x1, x2, x3, x4) f = f x1 x2 x3 x4 := rfl
theorem tp5_mk {T1 T2 T3 T4 T5 Z : Type} {x1 : T1} {x2 : T2} {x3 : T3} {x4 : T4} {x5 : T5} {f : T1 → T2 → T3 → T4 → T5 → Z} : tp5 (x1, x2, x3, x4, x5) f = f x1 x2 x3 x4 x5 := rfl
theorem tp6_mk {T1 T2 T3 T4 T5 T6 Z : Type} {x1 : T1} {x2 : T2} {x3 : T3} {x4 : T4} {x5 : T5} {x6 : T6} {f : T1 → T2 → T3 → T4 → T5 → T6 → Z} : tp6 (x1, x2, x3, x4, x5, x6) f = f x1 x2 x3 x4 x5 x6 := rfl
theorem tp7_mk {T1 T2 T3 T4 T5 T6 T7 Z : Type} {x1 : T1} {x2 : T2} {x3 : T3} {x4 : T4} {x5 : T5} {x6 : T6} {x7 : T7} {f : T1 → T2 → T3 → T4 → T5 → T6 → T7 → Z} : tp7 (x1, x2, x3, x4, x5, x6, x7) f = f x1 x2 x3 x4 x5 x6 x7 := rfl
theorem tp8_mk {T1 T2 T3 T4 T5 T6 T7 T8 Z : Type} {x1 : T1} {x2 : T2} {x3 : T3} {x4 : T4} {x5 : T5} {x6 : T6} {x7 : T7} {x8 : T8} {f : T1 → T2 → T3 → T4 → T5 → T6 → T7 → T8 → Z} : tp8 (x1, x2, x3, x4, x5, x6, x7, x8) f = f x1 x2 x3 x4 x5 x6 x7 x8 := rfl
theorem tp9_mk {T1 T2 T3 T4 T5 T6 T7 T8 T9 Z : Type} {x1 : T1} {x2 : T2} {x3 : T3} {x4 : T4} {x5 : T5} {x6 : T6} {x7 : T7} {x8 : T8} {x9 : T9} {f : T1 → T2 → T3 → T4 → T5 → T6 → T7 → T8 → T9 → Z} : tp9 (x1, x2, x3, x4, x5, x6, x7, x8, x9) f = f x1 x2 x3 x4 x5 x6 x7 x8 x9 := rfl
theorem tp10_mk {T1 T2 T3 T4 T5 T6 T7 T8 T9 T10 Z : Type} {x1 : T1} {x2 : T2} {x3 : T3} {x4 : T4} {x5 : T5} {x6 : T6} {x7 : T7} {x8 : T8} {x9 : T9} {x10 : T10} {f : T1 → T2 → T3 → T4 → T5 → T6 → T7 → T8 → T9 → T10 → Z} : tp10 (x1, x2, x3, x4, x5, x6, x7, x8, x9, x10) f = f x1 x2 x3 x4 x5 x6 x7 x8 x9 x10 := rfl
theorem tp11_mk {T1 T2 T3 T4 T5 T6 T7 T8 T9 T10 T11 Z : Type} {x1 : T1} {x2 : T2} {x3 : T3} {x4 : T4} {x5 : T5} {x6 : T6} {x7 : T7} {x8 : T8} {x9 : T9} {x10 : T10} {x11 : T11} {f : T1 → T2 → T3 → T4 → T5 → T6 → T7 → T8 → T9 → T10 → T11 → Z} : tp11 (x1, x2, x3, x4, x5, x6, x7, x8, x9, x10, x11) f = f x1 x2 x3 x4 x5 x6 x7 x8 x9 x10 x11 := rfl
theorem tp12_mk {T1 T2 T3 T4 T5 T6 T7 T8 T9 T10 T11 T12 Z : Type} {x1 : T1} {x2 : T2} {x3 : T3} {x4 : T4} {x5 : T5} {x6 : T6} {x7 : T7} {x8 : T8} {x9 : T9} {x10 : T10} {x11 : T11} {x12 : T12} {f : T1 → T2 → T3 → T4 → T5 → T6 → T7 → T8 → T9 → T10 → T11 → T12 → Z} : tp12 (x1, x2, x3, x4, x5, x6, x7, x8, x9, x10, x11, x12) f = f x1 x2 x3 x4 x5 x6 x7 x8 x9 x10 x11 x12 := rfl
theorem tp13_mk {T1 T2 T3 T4 T5 T6 T7 T8 T9 T10 T11 T12 T13 Z : Type} {x1 : T1} {x2 : T2} {x3 : T3} {x4 : T4} {x5 : T5} {x6 : T6} {x7 : T7} {x8 : T8} {x9 : T9} {x10 : T10} {x11 : T11} {x12 : T12} {x13 : T13} {f : T1 → T2 → T3 → T4 → T5 → T6 → T7 → T8 → T9 → T10 → T11 → T12 → T13 → Z} : tp13 (x1, x2, x3, x4, x5, x6, x7, x8, x9, x10, x11, x12, x13) f = f x1 x2 x3 x4 x5 x6 x7 x8 x9 x10 x11 x12 x13 := rfl
theorem tp14_mk {T1 T2 T3 T4 T5 T6 T7 T8 T9 T10 T11 T12 T13 T14 Z : Type} {x1 : T1} {x2 : T2} {x3 : T3} {x4 : T4} {x5 : T5} {x6 : T6} {x7 : T7} {x8 : T8} {x9 : T9} {x10 : T10} {x11 : T11} {x12 : T12} {x13 : T13} {x14 : T14} {f : T1 → T2 → T3 → T4 → T5 → T6 → T7 → T8 → T9 → T10 → T11 → T12 → T13 → T14 → Z} : tp14 (x1, x2, x3, x4, x5, x6, x7, x8, x9, x10, x11, x12, x13, x14) f = f x1 x2 x3 x4 x5 x6 x7 x8 x9 x10 x11 x12 x13 x14 := rfl
theorem tp15_mk {T1 T2 T3 T4 T5 T6 T7 T8 T9 T10 T11 T12 T13 T14 T15 Z : Type} {x1 : T1} {x2 : T2} {x3 : T3} {x4 : T4} {x5 : T5} {x6 : T6} {x7 : T7} {x8 : T8} {x9 : T9} {x10 : T10} {x11 : T11} {x12 : T12} {x13 : T13} {x14 : T14} {x15 : T15} {f : T1 → T2 → T3 → T4 → T5 → T6 → T7 → T8 → T9 → T10 → T11 → T12 → T13 → T14 → T15 → Z} : tp15 (x1, x2, x3, x4, x5, x6, x7, x8, x9, x10, x11, x12, x13, x14, x15) f = f x1 x2 x3 x4 x5 x6 x7 x8 x9 x10 x11 x12 x13 x14 x15 := rfl
theorem tp16_mk {T1 T2 T3 T4 T5 T6 T7 T8 T9 T10 T11 T12 T13 T14 T15 T16 Z : Type} {x1 : T1} {x2 : T2} {x3 : T3} {x4 : T4} {x5 : T5} {x6 : T6} {x7 : T7} {x8 : T8} {x9 : T9} {x10 : T10} {x11 : T11} {x12 : T12} {x13 : T13} {x14 : T14} {x15 : T15} {x16 : T16} {f : T1 → T2 → T3 → T4 → T5 → T6 → T7 → T8 → T9 → T10 → T11 → T12 → T13 → T14 → T15 → T16 → Z} : tp16 (x1, x2, x3, x4, x5, x6, x7, x8, x9, x10, x11, x12, x13, x14, x15, x16) f = f x1 x2 x3 x4 x5 x6 x7 x8 x9 x10 x11 x12 x13 x14 x15 x16 := rfl
theorem tp17_mk {T1 T2 T3 T4 T5 T6 T7 T8 T9 T10 T11 T12 T13 T14 T15 T16 T17 Z : Type} {x1 : T1} {x2 : T2} {x3 : T3} {x4 : T4} {x5 : T5} {x6 : T6} {x7 : T7} {x8 : T8} {x9 : T9} {x10 : T10} {x11 : T11} {x12 : T12} {x13 : T13} {x14 : T14} {x15 : T15} {x16 : T16} {x17 : T17} {f : T1 → T2 → T3 → T4 → T5 → T6 → T7 → T8 → T9 → T10 → T11 → T12 → T13 → T14 → T15 → T16 → T17 → Z} : tp17 (x1, x2, x3, x4, x5, x6, x7, x8, x9, x10, x11, x12, x13, x14, x15, x16, x17) f = f x1 x2 x3 x4 x5 x6 x7 x8 x9 x10 x11 x12 x13 x14 x15 x16 x17 := rfl
theorem tp18_mk {T1 T2 T3 T4 T5 T6 T7 T8 T9 T10 T11 T12 T13 T14 T15 T16 T17 T18 Z : Type} {x1 : T1} {x2 : T2} {x3 : T3} {x4 : T4} {x5 : T5} {x6 : T6} {x7 : T7} {x8 : T8} {x9 : T9} {x10 : T10} {x11 : T11} {x12 : T12} {x13 : T13} {x14 : T14} {x15 : T15} {x16 : T16} {x17 : T17} {x18 : T18} {f : T1 → T2 → T3 → T4 → T5 → T6 → T7 → T8 → T9 → T10 → T11 → T12 → T13 → T14 → T15 → T16 → T17 → T18 → Z} : tp18 (x1, x2, x3, x4, x5, x6, x7, x8, x9, x10, x11, x12, x13, x14, x15, x16, x17, x18) f = f x1 x2 x3 x4 x5 x6 x7 x8 x9 x10 x11 x12 x13 x14 x15 x16 x17 x18 := rfl
theorem tp19_mk {T1 T2 T3 T4 T5 T6 T7 T8 T9 T10 T11 T12 T13 T14 T15 T16 T17 T18 T19 Z : Type} {x1 : T1} {x2 : T2} {x3 : T3} {x4 : T4} {x5 : T5} {x6 : T6} {x7 : T7} {x8 : T8} {x9 : T9} {x10 : T10} {x11 : T11} {x12 : T12} {x13 : T13} {x14 : T14} {x15 : T15} {x16 : T16} {x17 : T17} {x18 : T18} {x19 : T19} {f : T1 → T2 → T3 → T4 → T5 → T6 → T7 → T8 → T9 → T10 → T11 → T12 → T13 → T14 → T15 → T16 → T17 → T18 → T19 → Z} : tp19 (x1, x2, x3, x4, x5, x6, x7, x8, x9, x10, x11, x12, x13, x14, x15, x16, x17, x18, x19) f = f x1 x2 x3 x4 x5 x6 x7 x8 x9 x10 x11 x12 x13 x14 x15 x16 x17 x18 x19 := rfl
theorem tp20_mk {T1 T2 T3 T4 T5 T6 T7 T8 T9 T10 T11 T12 T13 T14 T15 T16 T17 T18 T19 T20 Z : Type} {x1 : T1} {x2 : T2} {x3 : T3} {x4 : T4} {x5 : T5} {x6 : T6} {x7 : T7} {x8 : T8} {x9 : T9} {x10 : T10} {x11 : T11} {x12 : T12} {x13 : T13} {x14 : T14} {x15 : T15} {x16 : T16} {x17 : T17} {x18 : T18} {x19 : T19} {x20 : T20} {f : T1 → T2 → T3 → T4 → T5 → T6 → T7 → T8 → T9 → T10 → T11 → T12 → T13 → T14 → T15 → T16 → T17 → T18 → T19 → T20 → Z} : tp20 (x1, x2, x3, x4, x5, x6, x7, x8, x9, x10, x11, x12, x13, x14, x15, x16, x17, x18, x19, x20) f = f x1 x2 x3 x4 x5 x6 x7 x8 x9 x10 x11 x12 x13 x14 x15 x16 x17 x18 x19 x20 := rfl
theorem tp21_mk {T1 T2 T3 T4 T5 T6 T7 T8 T9 T10 T11 T12 T13 T14 T15 T16 T17 T18 T19 T20 T21 Z : Type} {x1 : T1} {x2 : T2} {x3 : T3} {x4 : T4} {x5 : T5} {x6 : T6} {x7 : T7} {x8 : T8} {x9 : T9} {x10 : T10} {x11 : T11} {x12 : T12} {x13 : T13} {x14 : T14} {x15 : T15} {x16 : T16} {x17 : T17} {x18 : T18} {x19 : T19} {x20 : T20} {x21 : T21} {f : T1 → T2 → T3 → T4 → T5 → T6 → T7 → T8 → T9 → T10 → T11 → T12 → T13 → T14 → T15 → T16 → T17 → T18 → T19 → T20 → T21 → Z} : tp21 (x1, x2, x3, x4, x5, x6, x7, x8, x9, x10, x11, x12, x13, x14, x15, x16, x17, x18, x19, x20, x21) f = f x1 x2 x3 x4 x5 x6 x7 x8 x9 x10 x11 x12 x13 x14 x15 x16 x17 x18 x19 x20 x21 := rfl
/-- what a walk knows of its method -/
def lc_C (p : Program) (s : State) (m : MethodId) (meth : Method) (c : Code) (args : Array Value) (code : ByteArray) (nL : Nat) (ret : Option FieldType) (own : String) (ws : List Cond) : Prop :=
  p.tables.exec = Jvm.exec ∧ c.code = code ∧ c.maxLocals = nL ∧ meth.sig.returnType = ret ∧ s.vm.findClass own = some m.cls ∧ meth.locks = false ∧ ∀ w ∈ ws, w.before args s = true
section RD
variable {p : Program} {l : Launch} {e : Env} {R : Room} {s : State} {m : MethodId} {args : Array Value} {below : List Frame} {meth : Method} {c : Code} {H : Heap} {locs : List Loc} {cells slots : Nat} {Q : State → Prop}
variable {y : MethodName} {bytes cc : ByteArray} {maxL nL n index : Nat} {ret : Option FieldType} {ws : List Cond} {rm : Room} {Ts : List Cond} {own C : String} {b : Addr} {As rest st0 : List Value} {pc : Nat} {ls : Array Slot}
variable {D : va_G} {cB cI : ClassId} {wc : va_W}
/-- a call of a method that only reads: an object's, with an answer -/
theorem rd_V {val : Int32} (S : CallFix p m c cc nL s args Ts own) (hM : Met l y ws rm (va_Pc (.ref b :: As) (fun U => va_P D vwCl wc U.heap ∧ hk_ D cB cI U)) (vp_Si (fun r => r = val)) 0 0 (fun _ => False))
    (cw : CallW R s args own C index y bytes maxL ret ws rm 0 0 n) (hk : hk_ D cB cI s) (hP : va_P D vwCl wc H) {q0 ci : Nat} {fs : List Value} {q : vw_C} (he : wc[q0]? = some (b, .inr (ci, fs))) (hc : vwCl[ci]? = some q) (hC : q.1 = C)
    (hn : As.length = n) (hsz : ls.size = nL) (hst : st0 = As.reverse ++ .ref b :: rest) (hcat : (rest.map fun v => v.category).sum ≤ 8) (hdg : decode cc pc = .ok (.invokevirtual index, 3)) (hf : cells ≤ R.cells ∧ slots ≤ R.slots)
    (kk : W p l e R s m args below meth c H locs cells slots Q (F0 m (pc + 3) ls (.int val :: rest))) : W p l e R s m args below meth c H locs cells slots Q (F0 m pc ls st0) := by
  subst hC
  refine vp_callSi (va_runV S hM cw ⟨fun a U g mk q => ⟨q.1, q.2.1, q.2.2.calling⟩, va_recv hk.1 hP hc he, fun U hU hW => ⟨rfl, by rw [hU]; exact hP, hk.warm hW⟩⟩ rfl hn hsz hst (lv_room hcat) hdg hf).run (fun r hr => ?_)
  subst hr
  exact kk
theorem rd_Vl {val : Int64} (S : CallFix p m c cc nL s args Ts own) (hM : Met l y ws rm (va_Pc (.ref b :: As) (fun U => va_P D vwCl wc U.heap ∧ hk_ D cB cI U)) (vp_Sl (fun r => r = val)) 0 0 (fun _ => False))
    (cw : CallW R s args own C index y bytes maxL ret ws rm 0 0 n) (hk : hk_ D cB cI s) (hP : va_P D vwCl wc H) {q0 ci : Nat} {fs : List Value} {q : vw_C} (he : wc[q0]? = some (b, .inr (ci, fs))) (hc : vwCl[ci]? = some q) (hC : q.1 = C)
    (hn : As.length = n) (hsz : ls.size = nL) (hst : st0 = As.reverse ++ .ref b :: rest) (hcat : (rest.map fun v => v.category).sum ≤ 8) (hdg : decode cc pc = .ok (.invokevirtual index, 3)) (hf : cells ≤ R.cells ∧ slots ≤ R.slots)
    (kk : W p l e R s m args below meth c H locs cells slots Q (F0 m (pc + 3) ls (.long val :: rest))) : W p l e R s m args below meth c H locs cells slots Q (F0 m pc ls st0) := by
  subst hC
  refine vp_callSl (va_runV S hM cw ⟨fun a U g mk q => ⟨q.1, q.2.1, q.2.2.calling⟩, va_recv hk.1 hP hc he, fun U hU hW => ⟨rfl, by rw [hU]; exact hP, hk.warm hW⟩⟩ rfl hn hsz hst (lv_room hcat) hdg hf).run (fun r hr => ?_)
  subst hr
  exact kk
/-- a static one -/
theorem rd_S {val : Int32} (S : CallFix p m c cc nL s args Ts own) (hM : Met l y ws rm (va_Pc As (fun U => va_P D vwCl wc U.heap ∧ hk_ D cB cI U)) (vp_Si (fun r => r = val)) 0 0 (fun _ => False))
    (cw : CallB R s args own index y bytes maxL ret ws rm 0 0 n ∧ (Cond.static y).before args s = true) (hk : hk_ D cB cI s) (hP : va_P D vwCl wc H)
    (hn : As.length = n) (hsz : ls.size = nL) (hst : st0 = As.reverse ++ rest) (hcat : (rest.map fun v => v.category).sum ≤ 8) (hdg : decode cc pc = .ok (.invokestatic index, 3)) (hf : cells ≤ R.cells ∧ slots ≤ R.slots)
    (kk : W p l e R s m args below meth c H locs cells slots Q (F0 m (pc + 3) ls (.int val :: rest))) : W p l e R s m args below meth c H locs cells slots Q (F0 m pc ls st0) := by
  refine vp_callSi (va_runS S hM cw ⟨fun a U g mk q => ⟨q.1, q.2.1, q.2.2.calling⟩, fun U hU hW => ⟨rfl, by rw [hU]; exact hP, hk.warm hW⟩⟩ rfl hn hsz hst (lv_room hcat) hdg hf).run (fun r hr => ?_)
  subst hr
  exact kk
theorem va_P_nil {D : va_G} {cl : List vw_C} {H : Heap} : va_P D cl [] H := fun k q h => by simp at h
end RD
section MT
variable {p : Program} {l : Launch} {e : Env} {R : Room} {s : State} {m : MethodId} {args : Array Value} {below : List Frame} {meth : Method} {c : Code} {H H0 : Heap} {locs : List Loc} {cells slots : Nat} {Q : State → Prop}
variable {y : MethodName} {bytes cc : ByteArray} {maxL nL n index : Nat} {ret : Option FieldType} {ws : List Cond} {rm : Room} {Ts : List Cond} {own C : String} {b : Addr} {As rest st0 : List Value} {pc : Nat} {ls : Array Slot}
variable {D : va_G} {cB cI : ClassId} {wc wr wW : va_W} {A : Nat → Prop} {S : Type} {w1 : S → va_W}
/-- the start of a writing method's contract -/
abbrev mt_P (D : va_G) (cB cI : ClassId) (wc : va_W) (sz : Nat) (U : State) : Prop := U.heap.size = sz ∧ va_P D vwCl wc U.heap ∧ hk_ D cB cI U ∧ va_D (fun _ => True) wc
/-- its world behind it -/
abbrev mt_B (D : va_G) (A : Nat → Prop) {S : Type} (w1 : S → va_W) (u : S) (t : State) : Prop := va_P D vwCl (w1 u) t.heap ∧ va_D A (w1 u)
theorem mt_blind {av : List Value} {sz : Nat} : FrameBlind (va_Pc av (mt_P D cB cI wc sz)) := fun a U g mk q => ⟨q.1, q.2.1, q.2.2.1, q.2.2.2.1.calling, q.2.2.2.2⟩
theorem mt_pre {av : List Value} (hk : hk_ D cB cI s) (hPc : va_P D vwCl wc H) (hDc : va_D A wc) : ∀ U : State, U.heap = H → s.WarmedH U.vm → va_Pc av (mt_P D cB cI wc H.size) av.toArray U :=
  fun U hU hW => ⟨rfl, by rw [hU], by rw [hU]; exact hPc, hk.warm hW, hDc.weaken (fun _ _ _ _ => trivial)⟩
theorem mt_Vi {post : Int32 → S → Prop} (Sx : CallFix p m c cc nL s args Ts own)
    (hM : Met l y ws rm (va_Pc (.ref b :: As) (mt_P D cB cI wc H.size)) (va_Qi post (mt_B D (va_A wc H.size) w1) (va_A wc H.size)) 0 0 (va_A wc H.size))
    (cw : CallW R s args own C index y bytes maxL ret ws rm 0 0 n) (hk : hk_ D cB cI s) (hP : va_P D vwCl wW H) (hD : va_D A wW) (hS : va_S A H0 H locs) (hA : ∀ q, H0.size ≤ q → A q)
    (isC isR : List Nat) (hC : isC.map (fun i => wW[i]?) = wc.map some) (hCf : isC.filterMap (fun i => wW[i]?) = wc) (hR : isR.map (fun i => wW[i]?) = wr.map some) (hnC : va_nd isC = true) (hnR : va_nd isR = true) (hdis : ∀ i ∈ isR, i ∉ isC)
    {q0 ci : Nat} {fs : List Value} {q : vw_C} (he : wc[q0]? = some (b, .inr (ci, fs))) (hc : vwCl[ci]? = some q) (hqC : q.1 = C)
    (hn : As.length = n) (hsz : ls.size = nL) (hst : st0 = As.reverse ++ .ref b :: rest) (hcat : (rest.map fun v => v.category).sum ≤ 8) (hdg : decode cc pc = .ok (.invokevirtual index, 3)) (hf : cells ≤ R.cells ∧ slots ≤ R.slots)
    (kk : ∀ (r : Int32) (u : S) (H1 : Heap) (locs1 : List Loc), post r u → va_P D vwCl (wr ++ w1 u) H1 → va_D A (wr ++ w1 u) → va_S A H0 H1 locs1 → W p l e R s m args below meth c H1 locs1 cells slots Q (F0 m (pc + 3) ls (.int r :: rest))) : W p l e R s m args below meth c H locs cells slots Q (F0 m pc ls st0) := by
  subst hqC
  have hPc := hP.sub isC hCf
  have hDc := hD.sub isC hnC hC
  have hFc := va_free (wc := wc) hD hS hA isC hC
  refine va_calli (va_runV Sx hM cw ⟨mt_blind, va_recv hk.1 hPc hc he, mt_pre hk hPc hDc⟩ rfl hn hsz hst (lv_room hcat) hdg hf) hS (fun q _ h => hFc q h) hFc (fun r u t H1 locs ht hvm hw hB hz1 hk1 hS => ?_)
  obtain ⟨hP1, hD1⟩ := hB
  rw [ht] at hP1
  obtain ⟨hP2, hD2⟩ := va_join hP hD isC isR hC hR hnR hdis hk1 hFc hP1 hD1
  exact kk r u H1 locs hw hP2 hD2 hS
theorem mt_Vv {post : S → Prop} (Sx : CallFix p m c cc nL s args Ts own)
    (hM : Met l y ws rm (va_Pc (.ref b :: As) (mt_P D cB cI wc H.size)) (va_Qv post (mt_B D (va_A wc H.size) w1) (va_A wc H.size)) 0 0 (va_A wc H.size))
    (cw : CallW R s args own C index y bytes maxL ret ws rm 0 0 n) (hk : hk_ D cB cI s) (hP : va_P D vwCl wW H) (hD : va_D A wW) (hS : va_S A H0 H locs) (hA : ∀ q, H0.size ≤ q → A q)
    (isC isR : List Nat) (hC : isC.map (fun i => wW[i]?) = wc.map some) (hCf : isC.filterMap (fun i => wW[i]?) = wc) (hR : isR.map (fun i => wW[i]?) = wr.map some) (hnC : va_nd isC = true) (hnR : va_nd isR = true) (hdis : ∀ i ∈ isR, i ∉ isC)
    {q0 ci : Nat} {fs : List Value} {q : vw_C} (he : wc[q0]? = some (b, .inr (ci, fs))) (hc : vwCl[ci]? = some q) (hqC : q.1 = C)
    (hn : As.length = n) (hsz : ls.size = nL) (hst : st0 = As.reverse ++ .ref b :: rest) (hcat : (rest.map fun v => v.category).sum ≤ 8) (hdg : decode cc pc = .ok (.invokevirtual index, 3)) (hf : cells ≤ R.cells ∧ slots ≤ R.slots)
    (kk : ∀ (u : S) (H1 : Heap) (locs1 : List Loc), post u → va_P D vwCl (wr ++ w1 u) H1 → va_D A (wr ++ w1 u) → va_S A H0 H1 locs1 → W p l e R s m args below meth c H1 locs1 cells slots Q (F0 m (pc + 3) ls rest)) : W p l e R s m args below meth c H locs cells slots Q (F0 m pc ls st0) := by
  subst hqC
  have hPc := hP.sub isC hCf
  have hDc := hD.sub isC hnC hC
  have hFc := va_free (wc := wc) hD hS hA isC hC
  refine va_callv (va_runV Sx hM cw ⟨mt_blind, va_recv hk.1 hPc hc he, mt_pre hk hPc hDc⟩ rfl hn hsz hst (lv_room hcat) hdg hf) hS (fun q _ h => hFc q h) hFc (fun u t H1 locs ht hvm hw hB hz1 hk1 hS => ?_)
  obtain ⟨hP1, hD1⟩ := hB
  rw [ht] at hP1
  obtain ⟨hP2, hD2⟩ := va_join hP hD isC isR hC hR hnR hdis hk1 hFc hP1 hD1
  exact kk u H1 locs hw hP2 hD2 hS
end MT
section SW
variable {p : Program} {l : Launch} {e : Env} {R : Room} {s : State} {m : MethodId} {args : Array Value} {below : List Frame} {meth : Method} {c : Code} {H : Heap} {locs : List Loc} {cells slots : Nat} {Q : State → Prop} {cc : ByteArray} {pc : Nat} {ls : Array Slot} {rest : List Value}
/-- a switch by a table, its target shown -/
theorem sw_T (hexec : p.tables.exec = Jvm.exec) (hb : c.code = cc) {dflt lo hi : Int} {offs : Array Int} {len : Nat} {x : Int32} {tgt : Nat} (hdg : decode cc pc = .ok (.tableswitch dflt lo hi offs, len))
    (h : ((x.toInt < lo ∨ hi < x.toInt) ∧ (pc : Int) + dflt = (tgt : Int)) ∨ (¬ x.toInt < lo ∧ ¬ hi < x.toInt ∧ ∃ off : Int, offs[(x.toInt - lo).toNat]? = some off ∧ (pc : Int) + off = (tgt : Int)))
    (k : W p l e R s m args below meth c H locs cells slots Q (F0 m tgt ls rest)) : W p l e R s m args below meth c H locs cells slots Q (F0 m pc ls (.int x :: rest)) := by
  rcases h with ⟨h1, h2⟩ | ⟨h1, h2, off, h3, h4⟩
  · exact lv_tableOut hexec hb hdg h1 h2 k
  · exact lv_tableIn hexec hb hdg h1 h2 h3 h4 k
end SW
