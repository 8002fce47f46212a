/-! the pure part: elements, values -/
abbrev q_P : Type := UInt8 × List UInt8 × List UInt8
def q_e1 (x : q_P) : List UInt8 := x.1 :: (x.2.1 ++ 0 :: x.2.2)
def q_en : List q_P → List UInt8
  | [] => []
  | x :: r => q_e1 x ++ q_en r
def q_bx (ps : List q_P) : List UInt8 := q_l4 ((q_en ps).length + 5) ++ (q_en ps ++ [0])
def q_tx (t : List UInt8) : List UInt8 := q_l4 (t.length + 1) ++ (t ++ [0])
/-- decimal digits of a number below 1000 -/
def q_dg (n : Nat) : List UInt8 :=
  if n < 10 then [UInt8.ofNat (48 + n)]
  else if n < 100 then [UInt8.ofNat (48 + n / 10), UInt8.ofNat (48 + n % 10)]
  else [UInt8.ofNat (48 + n / 100), UInt8.ofNat (48 + n / 10 % 10), UInt8.ofNat (48 + n % 10)]
def q_nr : Nat → List q_P → Prop
  | _, [] => True
  | i, x :: r => x.2.1 = q_dg i ∧ q_nr (i + 1) r
def q_nk (k : UInt8) (ps : List q_P) : Prop := (k = 3 → (ps.map (fun x => x.2.1)).Nodup) ∧ (k = 4 → q_nr 0 ps)
def q_lf (k : UInt8) (v : List UInt8) : Prop :=
  (k = 16 ∧ v.length = 4) ∨ (k = 18 ∧ v.length = 8) ∨ (k = 8 ∧ (v = [0] ∨ v = [1])) ∨ (k = 10 ∧ v = []) ∨ (k = 2 ∧ ∃ t, v = q_tx t)
/-- a value of a kind, at most d deep -/
def q_ok : Nat → UInt8 → List UInt8 → Prop
  | 0, k, v => q_lf k v
  | d + 1, k, v => q_lf k v ∨ ((k = 3 ∨ k = 4) ∧ ∃ ps, v = q_bx ps ∧ (∀ x ∈ ps, (0 : UInt8) ∉ x.2.1 ∧ q_ok d x.1 x.2.2) ∧ q_nk k ps)
/-- elements whose values are at most d deep -/
def q_op (d : Nat) (ps : List q_P) : Prop := ∀ x ∈ ps, (0 : UInt8) ∉ x.2.1 ∧ q_ok d x.1 x.2.2
theorem q_okb {d : Nat} {k : UInt8} {ps : List q_P} (hk : k = 3 ∨ k = 4) (h : q_op d ps) (hn : q_nk k ps) : q_ok (d + 1) k (q_bx ps) := Or.inr ⟨hk, ps, rfl, h, hn⟩
theorem q_lfk {k : UInt8} {v : List UInt8} (h : q_lf k v) (hk : k = 3 ∨ k = 4) : False := by
  unfold q_lf at h
  rcases hk with rfl | rfl <;> simp at h
theorem q_okd {d : Nat} {k : UInt8} {v : List UInt8} (h : q_ok d k v) (hk : k = 3 ∨ k = 4) : ∃ e ps, d = e + 1 ∧ v = q_bx ps ∧ q_op e ps ∧ q_nk k ps := by
  cases d with
  | zero => exact (q_lfk h hk).elim
  | succ d =>
    rcases h with h | ⟨_, ps, e, h1, h2⟩
    · exact (q_lfk h hk).elim
    · exact ⟨d, ps, rfl, e, h1, h2⟩
theorem q_okl {d : Nat} {k : UInt8} {v : List UInt8} (h : q_ok d k v) (h3 : k ≠ 3) (h4 : k ≠ 4) : q_lf k v := by
  cases d with
  | zero => exact h
  | succ d =>
    rcases h with h | ⟨hk, _⟩
    · exact h
    · rcases hk with hk | hk
      · exact absurd hk h3
      · exact absurd hk h4
theorem q_okm {d : Nat} : ∀ {e : Nat} {k : UInt8} {v : List UInt8}, q_ok d k v → d ≤ e → q_ok e k v := by
  induction d with
  | zero =>
    intro e k v h _
    cases e with
    | zero => exact h
    | succ e => exact Or.inl h
  | succ d ih =>
    intro e k v h he
    obtain ⟨e, rfl⟩ : ∃ f, e = f + 1 := ⟨e - 1, by omega⟩
    rcases h with h | ⟨hk, ps, ev, h1, h2⟩
    · exact Or.inl h
    · exact Or.inr ⟨hk, ps, ev, fun x hx => ⟨(h1 x hx).1, ih (h1 x hx).2 (by omega)⟩, h2⟩
theorem q_opm {d e : Nat} {ps : List q_P} (h : q_op d ps) (he : d ≤ e) : q_op e ps := fun x hx => ⟨(h x hx).1, q_okm (h x hx).2 he⟩
/-- the kinds -/
theorem q_okk {d : Nat} {k : UInt8} {v : List UInt8} (h : q_ok d k v) : k = 2 ∨ k = 3 ∨ k = 4 ∨ k = 8 ∨ k = 10 ∨ k = 16 ∨ k = 18 := by
  by_cases h3 : k = 3
  · exact Or.inr (Or.inl h3)
  · by_cases h4 : k = 4
    · exact Or.inr (Or.inr (Or.inl h4))
    · have := q_okl h h3 h4
      unfold q_lf at this
      rcases this with ⟨h, _⟩ | ⟨h, _⟩ | ⟨h, _⟩ | ⟨h, _⟩ | ⟨h, _⟩ <;> simp [h]
theorem q_okn {d : Nat} {k : UInt8} {v : List UInt8} (h : q_ok d k v) : k.toNat < 32 ∧ k.toNat ≠ 0 := by
  rcases q_okk h with rfl | rfl | rfl | rfl | rfl | rfl | rfl <;> decide
theorem q_e1l (x : q_P) : (q_e1 x).length = x.2.1.length + x.2.2.length + 2 := by
  unfold q_e1
  rw [List.length_cons, List.length_append, List.length_cons]
  omega
theorem q_enc (x : q_P) (r : List q_P) : q_en (x :: r) = q_e1 x ++ q_en r := rfl
theorem q_enl (x : q_P) (r : List q_P) : (q_en (x :: r)).length = x.2.1.length + x.2.2.length + 2 + (q_en r).length := by
  rw [q_enc, List.length_append, q_e1l]
theorem q_ena (a c : List q_P) : q_en (a ++ c) = q_en a ++ q_en c := by
  induction a with
  | nil => rfl
  | cons x a ih => rw [List.cons_append, q_enc, q_enc, ih, List.append_assoc]
theorem q_bxl (ps : List q_P) : (q_bx ps).length = (q_en ps).length + 5 := by
  unfold q_bx
  rw [List.length_append, List.length_append, q_l4l]
  simp
  omega
theorem q_txl (t : List UInt8) : (q_tx t).length = t.length + 5 := by
  unfold q_tx
  rw [List.length_append, List.length_append, q_l4l]
  simp
  omega
theorem q_psl (ps : List q_P) : 2 * ps.length ≤ (q_en ps).length := by
  induction ps with
  | nil => exact Nat.le_refl _
  | cons x r ih =>
    rw [q_enl, List.length_cons]
    omega
theorem q_enm {x : q_P} {ps : List q_P} (h : x ∈ ps) : x.2.1.length + x.2.2.length + 2 ≤ (q_en ps).length := by
  induction ps with
  | nil => cases h
  | cons y r ih =>
    rw [q_enl]
    rcases List.mem_cons.1 h with rfl | h
    · omega
    · have := ih h
      omega
/-- what lies at a box's place -/
theorem sb_bx {b : Nat → UInt8} {p : Nat} {ps : List q_P} (h : sb b p (q_bx ps)) : sb b p (q_l4 ((q_en ps).length + 5)) ∧ sb b (p + 4) (q_en ps) ∧ b (p + 4 + (q_en ps).length) = 0 := by
  have := sb_ap.1 h
  have h2 := sb_ap.1 this.2
  exact ⟨this.1, h2.1, h2.2.1⟩
theorem sm_bx {b : Nat → Int32} {p : Nat} {ps : List q_P} (h : sm b p (q_bx ps)) : sm b p (q_l4 ((q_en ps).length + 5)) ∧ sm b (p + 4) (q_en ps) ∧ b (p + 4 + (q_en ps).length) = iN 0 := by
  have := sm_ap.1 h
  have h2 := sm_ap.1 this.2
  exact ⟨this.1, h2.1, h2.2.1⟩
theorem sb_e1 {b : Nat → UInt8} {p : Nat} {x : q_P} (h : sb b p (q_e1 x)) : b p = x.1 ∧ sb b (p + 1) x.2.1 ∧ b (p + 1 + x.2.1.length) = 0 ∧ sb b (p + x.2.1.length + 2) x.2.2 := by
  have h2 := sb_ap.1 h.2
  refine ⟨h.1, h2.1, h2.2.1, ?_⟩
  have := h2.2.2
  rwa [show p + 1 + x.2.1.length + 1 = p + x.2.1.length + 2 by omega] at this
theorem sm_e1 {b : Nat → Int32} {p : Nat} {x : q_P} (h : sm b p (q_e1 x)) : b p = iN x.1.toNat ∧ sm b (p + 1) x.2.1 ∧ b (p + 1 + x.2.1.length) = iN 0 ∧ sm b (p + x.2.1.length + 2) x.2.2 := by
  have h2 := sm_ap.1 h.2
  refine ⟨h.1, h2.1, h2.2.1, ?_⟩
  have := h2.2.2
  rwa [show p + 1 + x.2.1.length + 1 = p + x.2.1.length + 2 by omega] at this
/-- the class: at, int32 -/
theorem q_at {b : Nat → UInt8} {p : Nat} (h : p < 202000) : tw_ST_at b (iN p) = iN (b p).toNat := by
  unfold tw_ST_at
  simp (disch := omega) only [i_0, i_202000, i_255, iN_a, iN_c, iN_le, iN_lt, iN_eq, iN_i, q_b8]
  rw [if_neg (by omega), if_neg (by omega)]
theorem q_int {b : Nat → UInt8} {p : Nat} (h : p + 4 ≤ 202000) : tw_ST_int32 b (iN p) = iN (q_g4 (b p) (b (p + 1)) (b (p + 2)) (b (p + 3))) := by
  unfold tw_ST_int32
  simp (disch := omega) only [i_0, i_1, i_2, i_3, i_4, i_8, i_16, i_24, i_31, i_202000, i_255, iN_a, iN_c, iN_le, iN_lt, iN_eq, iN_i, iN_s, q_b8]
  rw [if_neg (by omega), if_pos (by omega), q_g4or]
/-- the class: the value of an element -/
theorem q_vo_h {b : Nat → UInt8} {p0 : Int32} : ∀ (nm : List UInt8) (x n : Nat), sb b x nm → b (x + nm.length) = 0 → (0 : UInt8) ∉ nm → x + nm.length < 202000 → nm.length < n →
    tw_ST_valueOf_h19 b p0 n (iN x) = (iN (x + nm.length + 1) <<< (iN 5 &&& iN 31)) ||| (by_ b p0.toNatClampNeg &&& iN 31) := by
  intro nm
  induction nm with
  | nil =>
    intro x n _ h0 _ hx hn
    obtain ⟨n, rfl⟩ : ∃ m, n = m + 1 := ⟨n - 1, by omega⟩
    unfold tw_ST_valueOf_h19
    simp only [List.length_nil, Nat.add_zero] at *
    simp (disch := omega) only [i_0, i_1, i_5, i_31, i_202000, iN_a, iN_c, iN_le, iN_lt, iN_eq, iN_i, q_b0]
    rw [if_neg (by omega), if_pos h0]
  | cons y nm ih =>
    intro x n hs h0 hm hx hn
    obtain ⟨n, rfl⟩ : ∃ m, n = m + 1 := ⟨n - 1, by omega⟩
    rw [List.length_cons] at *
    have hy : ¬ b x = 0 := by
      rw [hs.1]
      intro e
      exact hm (e ▸ List.mem_cons_self)
    unfold tw_ST_valueOf_h19
    simp (disch := omega) only [i_0, i_1, i_5, i_31, i_202000, iN_a, iN_c, iN_le, iN_lt, iN_eq, iN_i, q_b0]
    rw [if_neg (by omega), if_neg hy, ih (x + 1) n hs.2 (by rw [← h0]; exact congrArg b (by omega)) (fun e => hm (List.mem_cons_of_mem _ e)) (by omega) (by omega)]
    rw [show x + 1 + nm.length + 1 = x + (nm.length + 1) + 1 by omega]
theorem q_vo {b : Nat → UInt8} {p : Nat} {x : q_P} (h : sb b p (q_e1 x)) (hk : x.1.toNat < 32) (hm : (0 : UInt8) ∉ x.2.1) (hp : p + x.2.1.length + 2 ≤ 202000) :
    tw_ST_valueOf b (iN p) = iN (32 * (p + x.2.1.length + 2) + x.1.toNat) := by
  obtain ⟨h0, h1, h2, _⟩ := sb_e1 h
  unfold tw_ST_valueOf
  simp (disch := omega) only [i_0, i_1, i_202000, iN_a, iN_c, iN_le, iN_lt, iN_eq, iN_i]
  rw [if_neg (by omega), if_pos (by omega), q_vo_h x.2.1 (p + 1) _ h1 h2 hm (by omega) (by omega), iN_c (by omega), q_b5, h0, Nat.mod_eq_of_lt hk, q_rf (by omega) hk]
  exact congrArg iN (by omega)
/-- the class: the end of a value -/
theorem q_eo4 {b : Nat → UInt8} {p n : Nat} {k : UInt8} (h : sb b p (q_l4 n)) (hn : n < 4294967296) (hp : p + 4 ≤ 202000) (hk : k = 3 ∨ k = 4) :
    tw_ST_endOf b (iN (32 * p + k.toNat)) = iN (p + n) := by
  have g := sb_l4 h hn
  have hk2 : k.toNat < 32 := by rcases hk with rfl | rfl <;> decide
  unfold tw_ST_endOf
  simp (disch := omega) only [i_0, i_1, i_2, i_3, i_4, i_5, i_8, i_16, i_18, i_24, i_31, i_202000, i_255, q_k, q_p, iN_a, iN_c, iN_le, iN_lt, iN_eq, iN_i, iN_s, q_b8, q_g4or]
  rw [g]
  rcases hk with rfl | rfl
  · simp
    omega
  · simp
    omega
theorem q_eo2 {b : Nat → UInt8} {p n : Nat} (h : sb b p (q_l4 n)) (hn : n < 4294967296) (hp : p + 4 ≤ 202000) :
    tw_ST_endOf b (iN (32 * p + 2)) = iN (p + 4 + n) := by
  have g := sb_l4 h hn
  unfold tw_ST_endOf
  simp (disch := omega) only [i_0, i_1, i_2, i_3, i_4, i_5, i_8, i_16, i_18, i_24, i_31, i_202000, i_255, q_k, q_p, iN_a, iN_c, iN_le, iN_lt, iN_eq, iN_i, iN_s, q_b8, q_g4or]
  rw [g]
  simp
  omega
theorem q_eol {b : Nat → UInt8} {p k : Nat} (hp : p ≤ 202000) (hk : k < 32) (h2 : k ≠ 2) (h3 : k ≠ 3) (h4 : k ≠ 4) :
    tw_ST_endOf b (iN (32 * p + k)) = iN (p + if k = 18 then 8 else if k = 16 then 4 else if k = 8 then 1 else 0) := by
  unfold tw_ST_endOf
  simp (disch := omega) only [i_0, i_1, i_2, i_3, i_4, i_5, i_8, i_16, i_18, i_24, i_31, i_202000, i_255, q_k, q_p, iN_a, iN_c, iN_le, iN_lt, iN_eq, iN_i]
  rw [if_neg h2, if_neg h3, if_neg h4]
  by_cases e : k = 18
  · simp [e]
  · by_cases e2 : k = 16
    · simp [e2]
    · by_cases e3 : k = 8
      · simp [e3]
      · simp [e, e2, e3]
theorem q_eo {b : Nat → UInt8} {d p : Nat} {k : UInt8} {v : List UInt8} (ho : q_ok d k v) (h : sb b p v) (hp : p + v.length ≤ 202000) :
    tw_ST_endOf b (iN (32 * p + k.toNat)) = iN (p + v.length) := by
  by_cases hk : k = 3 ∨ k = 4
  · obtain ⟨_, ps, _, rfl, _, _⟩ := q_okd ho hk
    rw [q_bxl] at *
    exact q_eo4 (sb_bx h).1 (by omega) (by omega) hk
  · have := q_okl ho (fun e => hk (Or.inl e)) (fun e => hk (Or.inr e))
    unfold q_lf at this
    rcases this with ⟨rfl, hv⟩ | ⟨rfl, hv⟩ | ⟨rfl, hv⟩ | ⟨rfl, hv⟩ | ⟨rfl, t, rfl⟩
    · exact (q_eol (by omega) (by decide) (by decide) (by decide) (by decide)).trans (by rw [hv]; rfl)
    · exact (q_eol (by omega) (by decide) (by decide) (by decide) (by decide)).trans (by rw [hv]; rfl)
    · have hv : v.length = 1 := by rcases hv with rfl | rfl <;> rfl
      exact (q_eol (by omega) (by decide) (by decide) (by decide) (by decide)).trans (by rw [hv]; rfl)
    · exact (q_eol (by omega) (by decide) (by decide) (by decide) (by decide)).trans (by rw [hv]; rfl)
    · rw [q_txl] at *
      have := q_eo2 (sb_ap.1 h).1 (by omega) (by omega : p + 4 ≤ 202000)
      refine this.trans (congrArg iN (by omega))
