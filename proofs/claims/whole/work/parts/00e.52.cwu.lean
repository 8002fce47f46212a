/-! the pure part: the class writes one unwound document -/
theorem c_full {fbase nbase fcnt ncnt pcnt x5 x6 x8 place limit : Int32} {fsts nsts pst pen pho : Nat → Int32} {b : Nat → UInt8} : ∀ (n : Nat) (x9 : Int32), tw_SH_writeUnwound_h151 fbase nbase fcnt fsts ncnt nsts pcnt pst pen pho x5 x6 x8 n x9 place limit true b = (place, limit, true, b) := by
  intro n
  induction n with
  | zero => exact fun _ => rfl
  | succ n ih =>
    intro x9
    unfold tw_SH_writeUnwound_h151
    split
    · rfl
    · split
      · rfl
      · exact ih _
theorem q_dlt {a c Z : Nat} (h : c ≤ a) : iN a - iN (Z + c) + iN Z = iN (a - c) := by
  have e : iN a = iN (a - c) + iN c := by
    rw [iN_a]
    exact congrArg iN (by omega)
  rw [e, ← iN_a Z c]
  generalize iN (a - c) = x
  generalize iN c = y
  generalize iN Z = u
  grind
theorem c_lln {b : Nat → UInt8} {pst pen pix : Nat → Int32} {x nm : List UInt8} {xs : List (List UInt8)} (hpa : q_pa b pst pen pix (x :: xs)) (h8 : xs.length + 1 ≤ 8) (hn : (x :: xs).getLast? = some nm) : tw_PA_lengthOfLastName (iN (xs.length + 1)) pst pen = iN nm.length := by
  rw [List.getLast?_eq_getElem?, List.length_cons, Nat.add_sub_cancel] at hn
  obtain ⟨a, p1, p2, _⟩ := hpa _ _ hn
  unfold tw_PA_lengthOfLastName
  rw [if_neg (by simp (disch := omega) only [i_0, iN_a, iN_c, iN_le, iN_lt, iN_eq, iN_i]; omega), if_neg (by simp (disch := omega) only [i_8, iN_a, iN_c, iN_le, iN_lt, iN_eq, iN_i]; omega), iN_s1 (by omega), Nat.add_sub_cancel, iN_c (by omega), p1, p2, iN_s (by omega)]
  exact congrArg iN (by omega)
