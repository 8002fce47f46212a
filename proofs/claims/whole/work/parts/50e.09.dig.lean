/-! the pure part: numbers of items -/
def q_dq : Nat → List UInt8 → Option Nat
  | a, [] => some a
  | a, y :: r => if y.toNat < 48 then none else if y.toNat ≤ 57 then q_dq (a * 10 + (y.toNat - 48)) r else none
def q_ix (l : List UInt8) : Option Nat := if l.length < 1 then none else if 4 < l.length then none else if l.length ≤ 1 then q_dq 0 l else if l.headD 0 = 48 then none else q_dq 0 l
theorem q_dqi {b : Nat → UInt8} {P : Nat} : ∀ (l : List UInt8) (x a n : Nat), sb b x l → P = x + l.length → P < 202000 → l.length ≤ 4 → l.length < n → a * 10 ^ l.length + 10 ^ l.length ≤ 10000 →
    tw_ST_indexNamed_h37 b (iN P) n (iN a) (iN x) = match q_dq a l with | none => -1 | some i => iN i := by
  intro l
  induction l with
  | nil =>
    intro x a n _ hP hp _ hn _
    obtain ⟨n, rfl⟩ : ∃ m, n = m + 1 := ⟨n - 1, by omega⟩
    simp only [List.length_nil, Nat.add_zero] at hP
    unfold tw_ST_indexNamed_h37
    rw [if_pos (by simp (disch := omega) only [iN_a, iN_c, iN_le, iN_lt, iN_eq, iN_i]; omega)]
    rfl
  | cons y l ih =>
    intro x a n h hP hp hl hn ha
    obtain ⟨n, rfl⟩ : ∃ m, n = m + 1 := ⟨n - 1, by omega⟩
    rw [List.length_cons] at *
    have hy := q_u8 y
    unfold tw_ST_indexNamed_h37
    rw [q_at (by omega), h.1, if_neg (by simp (disch := omega) only [iN_a, iN_c, iN_le, iN_lt, iN_eq, iN_i]; omega)]
    simp (disch := omega) only [i_1, i_10, i_48, i_57, iN_a, iN_c, iN_le, iN_lt, iN_eq, iN_i]
    unfold q_dq
    by_cases a1 : y.toNat < 48
    · rw [if_pos a1, if_pos a1]
    · rw [if_neg a1, if_neg a1]
      by_cases a2 : y.toNat ≤ 57
      · rw [if_pos a2, if_pos a2, iN_m, iN_a, iN_s (by omega), show a * 10 + y.toNat - 48 = a * 10 + (y.toNat - 48) by omega]
        have p10 : 10 ^ (l.length + 1) = 10 ^ l.length * 10 := Nat.pow_succ _ _
        refine ih _ _ n h.2 (by omega) hp (by omega) (by omega) ?_
        have : (a * 10 + (y.toNat - 48)) * 10 ^ l.length + 10 ^ l.length ≤ a * 10 ^ (l.length + 1) + 10 ^ (l.length + 1) := by
          rw [p10]
          have e1 : (a * 10 + (y.toNat - 48)) * 10 ^ l.length = a * (10 ^ l.length * 10) + (y.toNat - 48) * 10 ^ l.length := by
            rw [Nat.add_mul, Nat.mul_assoc, Nat.mul_comm 10]
          have e2 : (y.toNat - 48) * 10 ^ l.length ≤ 9 * 10 ^ l.length := Nat.mul_le_mul_right _ (by omega)
          omega
        omega
      · rw [if_neg a2, if_neg a2]
theorem q_ixi {b : Nat → UInt8} {p : Nat} {l : List UInt8} (h : sb b p l) (hp : p + l.length < 202000) : tw_ST_indexNamed b (iN p) (iN (p + l.length)) = match q_ix l with | none => -1 | some i => iN i := by
  unfold tw_ST_indexNamed q_ix
  simp (disch := omega) only [i_1, i_4, iN_a, iN_c, iN_le, iN_lt, iN_eq, iN_i, iN_s]
  rw [show p + l.length - p = l.length by omega]
  by_cases a1 : l.length < 1
  · rw [if_pos a1, if_pos a1]
  · rw [if_neg a1, if_neg a1]
    by_cases a2 : 4 < l.length
    · rw [if_pos a2, if_pos a2]
    · rw [if_neg a2, if_neg a2]
      have key : tw_ST_indexNamed_h37 b (iN (p + l.length)) (((p + l.length : Nat) : Int) - (p : Int)).toNat.succ 0 (iN p) = match q_dq 0 l with | none => -1 | some i => iN i := by
        rw [i_0]
        refine q_dqi l p 0 _ h rfl hp (by omega) (by omega) ?_
        have : 10 ^ l.length ≤ 10 ^ 4 := Nat.pow_le_pow_right (by omega) (by omega)
        omega
      by_cases a3 : l.length ≤ 1
      · rw [if_pos a3, if_pos a3]
        exact key
      · rw [if_neg a3, if_neg a3, q_at (by omega)]
        obtain ⟨y, r, rfl⟩ := List.exists_cons_of_ne_nil (show l ≠ [] by intro e; rw [e] at a1; exact a1 Nat.one_pos)
        rw [h.1, List.headD_cons, i_48, qy_48]
        by_cases a4 : y = 48
        · rw [if_pos a4, if_pos a4]
        · rw [if_neg a4, if_neg a4]
          exact key
theorem q_dql : ∀ (l : List UInt8) (a : Nat) {i : Nat}, q_dq a l = some i → i < (a + 1) * 10 ^ l.length := by
  intro l
  induction l with
  | nil =>
    intro a i h
    injection h with h
    rw [List.length_nil, Nat.pow_zero]
    omega
  | cons y l ih =>
    intro a i h
    unfold q_dq at h
    split at h
    · cases h
    · split at h
      · have := ih _ h
        rw [List.length_cons, Nat.pow_succ]
        have e : (a * 10 + (y.toNat - 48) + 1) * 10 ^ l.length ≤ ((a + 1) * 10) * 10 ^ l.length := Nat.mul_le_mul_right _ (by omega)
        rw [Nat.mul_comm (10 ^ l.length) 10, ← Nat.mul_assoc]
        omega
      · cases h
theorem q_ixl {l : List UInt8} {i : Nat} (h : q_ix l = some i) : i < 100000 := by
  unfold q_ix at h
  have f : l.length ≤ 4 → q_dq 0 l = some i → i < 100000 := by
    intro hl h
    have := q_dql l 0 h
    have : 10 ^ l.length ≤ 10 ^ 4 := Nat.pow_le_pow_right (by omega) hl
    omega
  split at h
  · cases h
  · split at h
    · cases h
    · split at h
      · exact f (by omega) h
      · split at h
        · cases h
        · exact f (by omega) h
theorem q_xdg : ∀ i, i < 1000 → q_ix (q_dg i) = some i := by decide +kernel
theorem q_u8e {y : UInt8} {n : Nat} (h : y.toNat = n) : y = UInt8.ofNat n := by
  rw [← h, UInt8.ofNat_toNat]
theorem q_ixd {l : List UInt8} {i : Nat} (hi : i < 1000) : q_ix l = some i ↔ l = q_dg i := by
  constructor
  · intro h
    unfold q_ix at h
    match l, h with
    | [], h => cases h
    | [y], h =>
      have hy := q_u8 y
      simp [q_dq] at h
      unfold q_dg
      rw [if_pos (by omega)]
      exact congrArg (fun z => [z]) (q_u8e (by omega))
    | [y, z], h =>
      have hy := q_u8 y
      have hz := q_u8 z
      simp [q_dq] at h
      have n48 : y.toNat ≠ 48 := fun e => h.1 (q_u8e e)
      unfold q_dg
      rw [if_neg (by omega), if_pos (by omega)]
      rw [q_u8e (y := y) (n := 48 + i / 10) (by omega), q_u8e (y := z) (n := 48 + i % 10) (by omega)]
    | [y, z, w], h =>
      have hy := q_u8 y
      have hz := q_u8 z
      have hw := q_u8 w
      simp [q_dq] at h
      have n48 : y.toNat ≠ 48 := fun e => h.1 (q_u8e e)
      unfold q_dg
      rw [if_neg (by omega), if_neg (by omega)]
      rw [q_u8e (y := y) (n := 48 + i / 100) (by omega), q_u8e (y := z) (n := 48 + i / 10 % 10) (by omega), q_u8e (y := w) (n := 48 + i % 10) (by omega)]
    | [y, z, w, u], h =>
      have hy := q_u8 y
      simp [q_dq] at h
      have n48 : y.toNat ≠ 48 := fun e => h.1 (q_u8e e)
      omega
    | _ :: _ :: _ :: _ :: _ :: r, h =>
      simp at h
  · intro h
    rw [h]
    exact q_xdg i hi
/-- the reference: a number's digits from the last one on -/
def q_nb : Nat → List UInt8 → Bool
  | c, [] => decide (c = 0)
  | c, y :: r => decide (y.toNat = 48 + c % 10) && decide (0 < c) && q_nb (c / 10) r
theorem q_nbc (c : Nat) (y : UInt8) (r : List UInt8) : q_nb c (y :: r) = (decide (y.toNat = 48 + c % 10) && decide (0 < c) && q_nb (c / 10) r) := rfl
theorem r_md {a : Nat} (h : a < 2147483648) : iN a / iN 10 = iN (a / 10) := (Int32.ofNat_div (by omega) (by omega)).symm
theorem r_dg {a : Nat} (h : a < 2147483648) : iN 48 + (iN a - iN a / iN 10 * iN 10) = iN (48 + a % 10) := by
  rw [r_md h, iN_m, iN_s (by omega), iN_a]
  exact congrArg iN (by omega)
theorem r_in_h {fu : Nat} {K : Int32 → Int32 → Bool → Option Bool} {st : Nat → Int32} {p P : Nat} (hK : ∀ x y g, K x y g = if (b2i g) = 0 then some false else if x = 0 then some true else some false) :
    ∀ (j : Nat) (w : List UInt8) (c n : Nat) (g : Bool), w.length = j → sm st p w → 0 < p → p + j < P → P < 136400 → j < n → c < 1000 → tw_MO_isNumber_h21 fu K st (iN p) (iN P) n (iN c) (iN (p + j) - iN 1) g = some (g && q_nb c w.reverse) := by
  intro j
  induction j with
  | zero =>
    intro w c n g hw _ hp hP hP2 hn hc
    obtain ⟨n, rfl⟩ : ∃ m, n = m + 1 := ⟨n - 1, by omega⟩
    have : w = [] := List.eq_nil_of_length_eq_zero hw
    subst this
    unfold tw_MO_isNumber_h21
    rw [hK, iN_s (by omega)]
    simp (disch := omega) only [i_0, iN_a, iN_c, iN_le, iN_lt, iN_eq, iN_i]
    cases g with
    | false => rfl
    | true =>
      rw [if_neg (by decide), if_pos (by omega), if_neg (by decide)]
      simp only [List.reverse_nil, q_nb, Bool.true_and]
      split <;> simp_all
  | succ j ih =>
    intro w c n g hw h hp hP hP2 hn hc
    obtain ⟨n, rfl⟩ : ∃ m, n = m + 1 := ⟨n - 1, by omega⟩
    obtain ⟨u, y, rfl⟩ : ∃ u y, w = u ++ [y] := by
      have hne : w ≠ [] := by
        intro e
        rw [e] at hw
        cases hw
      exact ⟨w.dropLast, w.getLast hne, (List.dropLast_concat_getLast hne).symm⟩
    have hu : u.length = j := by
      simp at hw
      exact hw
    have h' := sm_ap.1 h
    have hy : st (p + j) = iN y.toNat := by
      have := h'.2.1
      rwa [hu] at this
    have uy := q_u8 y
    unfold tw_MO_isNumber_h21
    cases g with
    | false =>
      rw [if_pos (show b2i false = 0 from rfl), hK, if_pos (show b2i false = 0 from rfl)]
      rfl
    | true =>
      rw [if_neg (by decide), iN_s (by omega), show p + (j + 1) - 1 = p + j by omega, if_neg (by simp (disch := omega) only [iN_a, iN_c, iN_le, iN_lt, iN_eq, iN_i]; omega)]
      unfold tw_MO_isNumber_r32
      rw [show (10 : Int32) = iN 10 from rfl, show (48 : Int32) = iN 48 from rfl, r_dg (by omega), iN_s1 (a := P) (by omega), r_md (by omega), q_m1a (iN (p + j))]
      simp only [ih u (c / 10) n _ hu h'.1 hp (by omega) hP2 (by omega) (by omega)]
      simp (disch := omega) only [i_0, i_136400, iN_a, iN_c, iN_le, iN_lt, iN_eq, iN_i]
      rw [if_pos ⟨by omega, by omega⟩, hy]
      simp (disch := omega) only [iN_a, iN_c, iN_le, iN_lt, iN_eq, iN_i]
      rw [List.reverse_append]
      show _ = some (true && q_nb c (y :: u.reverse))
      rw [q_nbc]
      by_cases a1 : y.toNat = 48 + c % 10
      · rw [if_pos a1]
        by_cases a2 : 0 < c
        · simp [a1, a2]
        · rw [if_neg a2, if_neg (by omega)]
          simp [a2]
      · rw [if_neg a1]
        simp [a1]
theorem q_nb0 (r : List UInt8) : q_nb 0 r = decide (r = []) := by
  cases r with
  | nil => rfl
  | cons y r =>
    rw [q_nbc]
    simp
theorem q_nb1 {c : Nat} (h0 : 0 < c) (h1 : c < 10) (r : List UInt8) : q_nb c r = decide (r = [UInt8.ofNat (48 + c)]) := by
  cases r with
  | nil =>
    show decide (c = 0) = _
    rw [decide_eq_false (by omega), decide_eq_false (by simp)]
  | cons y r =>
    rw [q_nbc, show c / 10 = 0 by omega, q_nb0, show c % 10 = c by omega, Bool.eq_iff_iff]
    simp only [Bool.and_eq_true, decide_eq_true_eq, q_ko y (48 + c) (by omega), List.cons.injEq]
    exact ⟨fun q => ⟨q.1.1, q.2⟩, fun q => ⟨⟨q.1, h0⟩, q.2⟩⟩
theorem r_nbd {c : Nat} (hc : c < 100) (r : List UInt8) : q_nb c r = decide (r = if c = 0 then [] else UInt8.ofNat (48 + c % 10) :: (if c / 10 = 0 then [] else [UInt8.ofNat (48 + c / 10)])) := by
  by_cases c0 : c = 0
  · subst c0
    exact q_nb0 r
  · rw [if_neg c0]
    by_cases c1 : c / 10 = 0
    · rw [if_pos c1, q_nb1 (by omega) (by omega), show c % 10 = c by omega]
    · rw [if_neg c1]
      cases r with
      | nil =>
        show decide (c = 0) = _
        rw [decide_eq_false c0, decide_eq_false (by simp)]
      | cons y r =>
        rw [q_nbc, q_nb1 (by omega) (by omega), Bool.eq_iff_iff]
        simp only [Bool.and_eq_true, decide_eq_true_eq, q_ko y (48 + c % 10) (by omega), List.cons.injEq]
        exact ⟨fun q => ⟨q.1.1, q.2⟩, fun q => ⟨⟨q.1, by omega⟩, q.2⟩⟩
theorem r_isn {fu : Nat} {st : Nat → Int32} {p v : Nat} {nm : List UInt8} (h : sm st p nm) (hp : 0 < p) (hP : p + nm.length < 136400) (hf : nm.length + 2 ≤ fu) (hv : v < 1000) :
    tw_MO_isNumber fu st (iN p) (iN (p + nm.length)) (iN v) = some (decide (nm = q_dg v)) := by
  unfold tw_MO_isNumber tw_MO_isNumber_r8
  rw [iN_s1 (by omega)]
  by_cases e : nm = []
  · subst e
    have : ¬ ([] = q_dg v) := by
      unfold q_dg
      split
      · simp
      · split <;> simp
    rw [if_pos (show iN (p + ([] : List UInt8).length - 1) < iN p from (iN_lt (by simp at hP ⊢; omega) (by simp at hP; omega)).2 (by simp; omega)), decide_eq_false this]
    rfl
  · obtain ⟨u, y, rfl⟩ : ∃ u y, nm = u ++ [y] := ⟨nm.dropLast, nm.getLast e, (List.dropLast_concat_getLast e).symm⟩
    have hl : (u ++ [y]).length = u.length + 1 := by simp
    rw [hl] at hP hf ⊢
    have h' := sm_ap.1 h
    have uy := q_u8 y
    have c0 : ¬ iN (p + (u.length + 1) - 1) < iN p := by
      simp (disch := omega) only [iN_a, iN_c, iN_le, iN_lt, iN_eq, iN_i]
      omega
    rw [if_neg c0]
    dsimp only
    rw [if_neg (show ¬ b2i true = 0 by decide), if_neg c0]
    unfold tw_MO_isNumber_r32
    rw [show (10 : Int32) = iN 10 from rfl, show (48 : Int32) = iN 48 from rfl, r_dg (by omega), r_md (by omega), show p + (u.length + 1) - 1 = p + u.length by omega, q_m1a (iN (p + u.length))]
    simp only [r_in_h (K := _) (P := p + (u.length + 1)) (fun _ _ _ => rfl) u.length u (v / 10) fu _ rfl h'.1 hp (by omega) (by omega) (by omega) (by omega)]
    simp (disch := omega) only [i_0, i_136400, iN_a, iN_c, iN_le, iN_lt, iN_eq, iN_i]
    rw [if_pos ⟨by omega, by omega⟩, h'.2.1]
    simp (disch := omega) only [iN_a, iN_c, iN_le, iN_lt, iN_eq, iN_i]
    have key : (decide (y.toNat = 48 + v % 10) && q_nb (v / 10) u.reverse) = decide (u ++ [y] = q_dg v) := by
      rw [r_nbd (by omega), Bool.eq_iff_iff]
      simp only [Bool.and_eq_true, decide_eq_true_eq, q_ko y (48 + v % 10) (by omega)]
      have e1 : q_dg v = (if v / 10 = 0 then [] else UInt8.ofNat (48 + v / 10 % 10) :: (if v / 10 / 10 = 0 then [] else [UInt8.ofNat (48 + v / 10 / 10)])).reverse ++ [UInt8.ofNat (48 + v % 10)] := by
        unfold q_dg
        by_cases v1 : v < 10
        · rw [if_pos v1, if_pos (by omega), show v % 10 = v by omega]
          rfl
        · rw [if_neg v1, if_neg (show ¬ v / 10 = 0 by omega)]
          by_cases v2 : v < 100
          · rw [if_pos v2, if_pos (show v / 10 / 10 = 0 by omega), show v / 10 % 10 = v / 10 by omega]
            rfl
          · rw [if_neg v2, if_neg (show ¬ v / 10 / 10 = 0 by omega), show v / 10 / 10 = v / 100 by omega]
            rfl
      rw [e1]
      constructor
      · rintro ⟨q1, q2⟩
        rw [← q2, ← q1, List.reverse_reverse]
      · intro q
        have q2 := List.append_inj' q rfl
        refine ⟨List.singleton_inj.1 q2.2, ?_⟩
        rw [q2.1, List.reverse_reverse]
    by_cases a1 : y.toNat = 48 + v % 10
    · rw [if_pos a1]
      rw [← key]
      by_cases a2 : 0 < v
      · rw [if_pos a2]
        simp [a1]
      · rw [if_neg a2, if_pos (show iN (p + u.length) = iN (p + (u.length + 1)) - 1 by rw [iN_s1 (by omega)]; exact congrArg iN (by omega))]
        simp [a1]
    · rw [if_neg a1, ← key]
      simp [a1]
