/-! the pure part: keys of documents -/
def q_sgn (u : Bool) (x : Int32) : Int32 := if u = true then x else -x
theorem q_sgp {A : Type} {c : A → A → Int32} (h : q_PO c) (u : Bool) : q_PO (fun a b => q_sgn u (c a b)) := by
  cases u with
  | true => exact h
  | false =>
    have e : ∀ a b, q_sgn false (c a b) = c b a := fun a b => (h.2.1 a b).symm
    refine ⟨fun a b => ?_, fun a b => ?_, fun a b d => ?_⟩
    · show q_s3 (q_sgn false (c a b))
      rw [e]
      exact h.1 b a
    · show q_sgn false (c b a) = -(q_sgn false (c a b))
      rw [e, e]
      exact h.2.1 b a
    · show q_sgn false (c a b) ≠ 1 → q_sgn false (c b d) ≠ 1 → q_sgn false (c a d) ≠ 1
      rw [e, e, e]
      exact fun h1 h2 => h.2.2 d b a h2 h1
def q_B (u : Bool) (z w : q_L) : Bool := decide (q_sgn u (q_ov2 20 z.2 w.2) = -1)
theorem q_B1 (u : Bool) : ∀ a b d, q_B u a b = true → q_B u b d = true → q_B u a d = true := by
  intro a b d h1 h2
  have P := q_POi (q_sgp (q_ovp 20) u) (fun z : q_L => z.2)
  have h1 := of_decide_eq_true h1
  have h2 := of_decide_eq_true h2
  exact decide_eq_true (q_POl P (a := a) (b := b) (d := d) h1 (by show q_sgn u (q_ov2 20 b.2 d.2) ≠ 1; rw [h2]; decide))
theorem q_B0 (u : Bool) : ∀ a, q_B u a a = false := by
  intro a
  have P := q_POi (q_sgp (q_ovp 20) u) (fun z : q_L => z.2)
  have e := q_POr P a
  refine decide_eq_false ?_
  show ¬ q_sgn u (q_ov2 20 a.2 a.2) = -1
  have e : q_sgn u (q_ov2 20 a.2 a.2) = 0 := e
  rw [e]
  decide
def q_fs (B : q_L → q_L → Bool) (o : Option q_L) (l : List q_L) : Option q_L := l.foldl (fun b z => match b with | none => some z | some b => if B z b = true then some z else some b) o
theorem q_fsc (B : q_L → q_L → Bool) (w z : q_L) (l : List q_L) : q_fs B (some w) (z :: l) = q_fs B (if B z w = true then some z else some w) l := rfl
def q_kyv (u : Bool) (xs : List (List UInt8)) (v : List UInt8) : q_V := match q_fm (q_B u) (q_lD xs v) with | none => (0, []) | some z => z.2
/-- a value that lies somewhere, or is missing: the class's reference -/
def q_kr (b : Nat → UInt8) (x : Int32) (z : q_V) : Prop := ∃ P, x = iN (32 * P + z.1.toNat) ∧ q_oz 16 z.1 z.2 ∧ sb b P z.2 ∧ P + z.2.length ≤ 202000 ∧ z.2.length ≤ 2000
theorem c_kr {b : Nat → UInt8} {x y : Int32} {z w : q_V} (h : q_kr b x z) (h2 : q_kr b y w) : tw_ST_cmp0 b x y = q_ov2 20 z w := by
  obtain ⟨P, rfl, a1, a2, a3, a4⟩ := h
  obtain ⟨Q, rfl, b1, b2, b3, b4⟩ := h2
  exact q_cmp0 a1 b1 a2 b2 a3 b3 (by omega) (by omega) (by omega)
theorem q_kr0 (b : Nat → UInt8) : q_kr b 0 (0, []) := ⟨0, rfl, Or.inr ⟨rfl, rfl⟩, trivial, Nat.zero_le _, Nat.zero_le _⟩
theorem q_lDo {xs : List (List UInt8)} {v : List UInt8} {z : q_L} (ho : q_ok 16 3 v) (hv : v.length ≤ 2000) (h : z ∈ q_lD xs v) : z = q_ms ∨ (q_ok 16 z.2.1 z.2.2 ∧ q_in 0 v z) := q_lvo 26 16 0 3 v xs z ho (by omega) h
theorem q_krl {b : Nat → UInt8} {p : Nat} {xs : List (List UInt8)} {v : List UInt8} {z : q_L} (ho : q_ok 16 3 v) (hv : v.length ≤ 2000) (hs : sb b p v) (hp : p + v.length ≤ 202000) (h : z ∈ q_lD xs v) : q_kr b (q_rl p z) z.2 := by
  rcases q_lDo ho hv h with rfl | ⟨h1, h2⟩
  · exact q_kr0 b
  · have kn := q_okn h1
    have := q_ile h2
    unfold q_rl
    rw [if_neg (fun q => kn.2 (by rw [q]; rfl))]
    exact ⟨p + z.1, rfl, Or.inl h1, q_isb h2 hs, by omega, by omega⟩
theorem q_sc0 {c : Int32} {u : Bool} (h : q_s3 c) : (0 ≤ c * (if u = true then 1 else -1)) = ¬ (q_sgn u c = -1) := by
  unfold q_sgn
  rcases h with rfl | rfl | rfl <;> cases u <;> decide
theorem q_sc1 {c : Int32} {u : Bool} (h : q_s3 c) : (c * (if u = true then 1 else -1) ≤ 0) = ¬ (q_sgn u c = 1) := by
  unfold q_sgn
  rcases h with rfl | rfl | rfl <;> cases u <;> decide
theorem c_lf {plv : Nat → Int32} {n i : Nat} (hi : i < n) (hn : n ≤ 1001) : tw_PA_leaf (iN n) plv (iN i) = plv i := by
  unfold tw_PA_leaf
  rw [if_neg (by simp (disch := omega) only [i_0, iN_a, iN_c, iN_le, iN_lt, iN_eq, iN_i]; omega), if_neg (by simp (disch := omega) only [iN_a, iN_c, iN_le, iN_lt, iN_eq, iN_i]; omega), if_neg (by simp (disch := omega) only [i_1001, iN_a, iN_c, iN_le, iN_lt, iN_eq, iN_i]; omega), iN_c (by omega)]
def q_ro (p : Nat) (o : Option q_L) : Int32 := match o with | none => 0 | some z => q_rl p z
theorem c_ll_h {b : Nat → UInt8} {p : Nat} {u : Bool} {plv : Nat → Int32} {L : List q_L} (hL : ∀ i z, L[i]? = some z → plv i = q_rl p z) (hl : L.length ≤ 1001) (hv : ∀ z ∈ L, q_kr b (q_rl p z) z.2) :
    ∀ (m i n : Nat) (w : q_L), i + m = L.length → m < n → w ∈ L → tw_SO_leastLeaf_h11 b (iN L.length) plv (if u = true then 1 else -1) n (q_rl p w) (iN i) = q_ro p (q_fs (q_B u) (some w) (L.drop i)) := by
  intro m
  induction m with
  | zero =>
    intro i n w hi hn hw
    obtain ⟨n, rfl⟩ : ∃ m, n = m + 1 := ⟨n - 1, by omega⟩
    have : i = L.length := by omega
    subst this
    unfold tw_SO_leastLeaf_h11
    rw [if_pos (Int32.le_refl _), List.drop_length]
    rfl
  | succ m ih =>
    intro i n w hi hn hw
    obtain ⟨n, rfl⟩ : ∃ m, n = m + 1 := ⟨n - 1, by omega⟩
    have il : i < L.length := by omega
    have e := List.getElem?_eq_getElem il
    have zm : L[i] ∈ L := List.getElem_mem il
    unfold tw_SO_leastLeaf_h11
    rw [if_neg (by simp (disch := omega) only [iN_a, iN_c, iN_le, iN_lt, iN_eq, iN_i]; omega), c_lf il hl, hL i _ e, c_kr (hv _ zm) (hv w hw), List.drop_eq_getElem_cons il, q_fsc, show iN i + 1 = iN (i + 1) from iN_a i 1, ih (i + 1) n w (by omega) (by omega) hw, ih (i + 1) n L[i] (by omega) (by omega) zm]
    have sc := q_sc0 (u := u) (q_ov3 20 L[i].2.1 L[i].2.2 w.2.1 w.2.2)
    change (0 ≤ q_ov2 20 L[i].2 w.2 * _) = _ at sc
    by_cases c : q_sgn u (q_ov2 20 L[i].2 w.2) = -1
    · rw [if_neg (by rw [sc]; exact fun q => q c), if_pos (show q_B u L[i] w = true from decide_eq_true c)]
    · rw [if_pos (by rw [sc]; exact c), if_neg (show ¬ q_B u L[i] w = true from fun q => c (of_decide_eq_true q))]
theorem q_fs0 (B : q_L → q_L → Bool) (L : List q_L) : q_fs B none L = q_fm B L := rfl
theorem q_fs1 (B : q_L → q_L → Bool) (z : q_L) (L : List q_L) : q_fm B (z :: L) = q_fs B (some z) L := rfl
theorem c_ll {b : Nat → UInt8} {p : Nat} {u : Bool} {plv : Nat → Int32} {L : List q_L} (hL : ∀ i z, L[i]? = some z → plv i = q_rl p z) (hl : L.length ≤ 1001) (hv : ∀ z ∈ L, q_kr b (q_rl p z) z.2) :
    tw_SO_leastLeaf b (iN L.length) plv (if u = true then 1 else -1) = q_ro p (q_fm (q_B u) L) := by
  unfold tw_SO_leastLeaf
  cases L with
  | nil => rfl
  | cons z L =>
    have h := c_ll_h (u := u) hL hl hv L.length 1 (((iN (z :: L).length).toInt - (1 : Int32).toInt).toNat + 1) z (by rw [List.length_cons]; omega) (by rw [iN_i (by omega), List.length_cons]; show _ < ((L.length + 1 : Nat) - (1 : Int)).toNat + 1; omega) List.mem_cons_self
    rw [show (0 : Int32) = iN 0 from rfl, c_lf (by rw [List.length_cons]; omega) hl, hL 0 z rfl, q_fs1]
    rw [List.drop_one, List.tail_cons] at h
    exact h
/-- the class's key of a document -/
theorem c_key {b : Nat → UInt8} {p : Nat} {u : Bool} {psr plc pbs : Int32} {pms : Bool} {plv psn pst pen pix : Nat → Int32} {xs : List (List UInt8)} {v : List UInt8} (hp : p + v.length ≤ 122000) (hx : ∀ x ∈ xs, q_gs x) (hx0 : xs ≠ []) (hx8 : xs.length ≤ 8) (hpa : q_pa b pst pen pix xs)
    (ho : q_ok 16 3 v) (h : sb b p v) (hv : v.length ≤ 2000) (hs : ∀ o, o < 2000 → psn o ≠ psr + 1) :
    ∃ pc plv' psn' pms', tw_PA_findLeaves (iN xs.length) b pst pen pix plc psr pbs pms plv psn (iN (32 * p + 3)) = (pc, psr + 1, iN p, pms', plv', psn') ∧ q_kr b (tw_SO_leastLeaf b pc plv' (if u = true then 1 else -1)) (q_kyv u xs v) ∧ (∀ o, o < 2000 → psn' o = psr + 1 ∨ psn' o = psn o) := by
  obtain ⟨l1, l2, l3⟩ := q_lEf ho (by omega) hv hx hx0
  obtain ⟨plv', psn', pms', e1, e2, e3⟩ := q_fl (psr := psr) (plc := plc) (pbs := pbs) (pms := pms) (plv := plv) (by omega) hx hx0 hx8 hpa ho (by omega) h hv hs
  have val : ∀ z ∈ q_lE xs v, q_kr b (q_rl p z) z.2 := fun z hz => q_krl ho hv h (by omega) ((l1 z).1 hz)
  refine ⟨_, plv', psn', pms', e1, ?_, e3⟩
  rw [c_ll e2 (by omega) val]
  have em := q_lEm (B := q_B u) (q_B1 u) (q_B0 u) ho (by omega) hv hx hx0
  have fb := q_fmb (B := q_B u) (q_B1 u) (q_B0 u) (q_lE xs v)
  unfold q_kyv
  rw [← em]
  cases hq : q_fm (q_B u) (q_lE xs v) with
  | none => exact q_kr0 b
  | some z => exact val z (fb.2 z hq).1
