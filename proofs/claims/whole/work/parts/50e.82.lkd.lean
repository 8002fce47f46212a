/-! the pure part: $lookup; the class remembers leaves -/
def q_nuv (z : q_L) : q_V := if z.2.1 = 0 then (10, []) else z.2
def q_lvw (L : List q_L) : List q_V := if L = [] then [(10, [])] else L.map q_nuv
theorem q_lwl (L : List q_L) : (q_lvw L).length = if L.length < 1 then 1 else L.length := by
  unfold q_lvw
  cases L with
  | nil => rfl
  | cons z r =>
    rw [if_neg (by simp), List.length_map, if_neg (by rw [List.length_cons]; omega)]
theorem q_kgl {b : Nat → UInt8} {fb p : Nat} {xs : List (List UInt8)} {v : List UInt8} {z : q_L} (ho : q_ok 16 3 v) (hv : v.length ≤ 2000) (hs : sb b p v) (hp : fb ≤ p) (hp2 : p + v.length ≤ fb + 40000) (hp3 : fb + 40000 ≤ 122000) (h : z ∈ q_lD xs v) : q_kg fb 0 0 b (if q_rl p z = 0 then 10 else q_rl p z) (q_nuv z) := by
  rcases q_lDo ho hv h with rfl | ⟨h1, h2⟩
  · exact q_kg0
  · have kn := q_okn h1
    have := q_ile h2
    have nz : ¬ z.2.1 = 0 := fun q => kn.2 (by rw [q]; rfl)
    unfold q_rl q_nuv
    rw [if_neg nz, if_neg nz, if_neg (by simp (disch := omega) only [i_0, iN_a, iN_c, iN_le, iN_lt, iN_eq, iN_i]; omega)]
    exact ⟨p + z.1, rfl, h1, q_isb h2 hs, by omega, by omega, Or.inr (Or.inl ⟨by omega, by omega⟩)⟩
theorem c_ltt {n : Nat} (h : n ≤ 1001) : tw_FI_leavesToTake (iN n) = iN (if n < 1 then 1 else n) := by
  unfold tw_FI_leavesToTake
  by_cases c : n < 1
  · rw [if_pos (by simp (disch := omega) only [i_1, iN_a, iN_c, iN_le, iN_lt, iN_eq, iN_i]; omega), if_pos c]
    rfl
  · rw [if_neg (by simp (disch := omega) only [i_1, iN_a, iN_c, iN_le, iN_lt, iN_eq, iN_i]; omega), if_neg c]
/-- the leaves of a document that are taken -/
theorem c_lft {b : Nat → UInt8} {fb p : Nat} {plv : Nat → Int32} {xs : List (List UInt8)} {v : List UInt8} (ho : q_ok 16 3 v) (hv : v.length ≤ 2000) (hs : sb b p v) (hp : fb ≤ p) (hp2 : p + v.length ≤ fb + 40000) (hp3 : fb + 40000 ≤ 122000) (hx : ∀ x ∈ xs, q_gs x) (hx0 : xs ≠ []) (hL : ∀ i z, (q_lE xs v)[i]? = some z → plv i = q_rl p z) :
    ∀ i z, (q_lvw (q_lE xs v))[i]? = some z → q_kg fb 0 0 b (tw_FI_leafToTake (iN (q_lE xs v).length) plv (iN i)) z := by
  obtain ⟨l1, l2, l3⟩ := q_lEf ho (by omega) hv hx hx0
  intro i z hi
  unfold q_lvw at hi
  unfold tw_FI_leafToTake
  by_cases c : q_lE xs v = []
  · rw [if_pos c] at hi
    have i0 : i = 0 := by
      have := (List.getElem?_eq_some_iff.1 hi).1
      rw [List.length_singleton] at this
      omega
    subst i0
    cases hi
    rw [c]
    have : tw_PA_leaf (iN ([] : List q_L).length) plv (iN 0) = 0 := by
      unfold tw_PA_leaf
      rw [if_pos (show iN ([] : List q_L).length ≤ iN 0 by decide), ite_self]
    rw [this, if_pos rfl]
    exact q_kg0
  · rw [if_neg c, List.getElem?_map] at hi
    cases hq : (q_lE xs v)[i]? with
    | none =>
      rw [hq] at hi
      cases hi
    | some y =>
      rw [hq] at hi
      cases hi
      have il := (List.getElem?_eq_some_iff.1 hq).1
      rw [c_lf il (by omega), hL i y hq]
      exact q_kgl ho hv hs hp hp2 hp3 ((l1 y).1 (List.mem_of_getElem? hq))
/-- the chain of a value -/
def q_cN (z : q_V) : Nat := (tw_FI_chainOf (q_hs 20 z.1 z.2)).toNatClampNeg
theorem q_cNl (z : q_V) : q_cN z < 1024 := by
  unfold q_cN tw_FI_chainOf
  generalize (q_hs 20 z.1 z.2 ^^^ _) ^^^ _ = x
  have e : (x &&& 1023).toBitVec.toNat < 1024 := by
    show (x.toBitVec &&& (1023 : Int32).toBitVec).toNat < 1024
    rw [BitVec.toNat_and]
    have : x.toBitVec.toNat &&& 1023 ≤ 1023 := Nat.and_le_right
    have h2 : (1023 : Int32).toBitVec.toNat = 1023 := by decide
    rw [h2]
    omega
  have t : (x &&& 1023).toInt = ((x &&& 1023).toBitVec.toNat : Int) := BitVec.toInt_eq_toNat_of_lt (by omega)
  show (x &&& 1023).toInt.toNat < 1024
  rw [t]
  omega
/-- the last number below n of a kind, or -1 -/
def q_lst (p : Nat → Bool) : Nat → Int32
  | 0 => -1
  | n + 1 => if p n = true then iN n else q_lst p n
theorem q_lsv (p : Nat → Bool) : ∀ n, q_lst p n = -1 ∨ ∃ e, e < n ∧ q_lst p n = iN e := by
  intro n
  induction n with
  | zero => exact Or.inl rfl
  | succ n ih =>
    unfold q_lst
    by_cases c : p n = true
    · rw [if_pos c]
      exact Or.inr ⟨n, by omega, rfl⟩
    · rw [if_neg c]
      rcases ih with h | ⟨e, h1, h2⟩
      · exact Or.inl h
      · exact Or.inr ⟨e, by omega, h2⟩
theorem q_lse {p q : Nat → Bool} : ∀ n, (∀ e, e < n → p e = q e) → q_lst p n = q_lst q n := by
  intro n
  induction n with
  | zero => exact fun _ => rfl
  | succ n ih =>
    intro h
    unfold q_lst
    rw [h n (by omega), ih (fun e he => h e (by omega))]
abbrev q_E : Type := List (q_V × Nat)
def q_pc (EE : q_E) (c e : Nat) : Bool := match EE[e]? with | none => false | some y => decide (q_cN y.1 = c)
def q_FE (kb : Nat) (b : Nat → UInt8) (EE : q_E) (fict : Int32) (fch fnx flv fhs fdo : Nat → Int32) : Prop :=
  fict = iN EE.length ∧ (∀ e y, EE[e]? = some y → q_kg kb 0 0 b (flv e) y.1 ∧ fhs e = q_hs 20 y.1.1 y.1.2 ∧ fdo e = iN y.2 ∧ y.2 < 200 ∧ fnx e = q_lst (q_pc EE (q_cN y.1)) e) ∧ (∀ c, c < 1024 → fch c = q_lst (q_pc EE c) EE.length)
theorem q_pca {EE : q_E} {y : q_V × Nat} {c e : Nat} (h : e < EE.length) : q_pc (EE ++ [y]) c e = q_pc EE c e := by
  unfold q_pc
  rw [List.getElem?_append_left h]
theorem q_FEa {kb : Nat} {b : Nat → UInt8} {EE : q_E} {fict x : Int32} {fch fnx flv fhs fdo : Nat → Int32} {z : q_V} {d : Nat} (h : q_FE kb b EE fict fch fnx flv fhs fdo) (hl : EE.length < 13533) (hx : q_kg kb 0 0 b x z) (hd : d < 200) :
    q_FE kb b (EE ++ [(z, d)]) (fict + 1) (upd fch (q_cN z) fict) (upd fnx EE.length (fch (q_cN z))) (upd flv EE.length x) (upd fhs EE.length (q_hs 20 z.1 z.2)) (upd fdo EE.length (iN d)) := by
  obtain ⟨h1, h2, h3⟩ := h
  refine ⟨?_, fun e y he => ?_, fun c hc => ?_⟩
  · rw [h1, List.length_append, List.length_singleton]
    exact iN_a _ 1
  · have el := (List.getElem?_eq_some_iff.1 he).1
    rw [List.length_append, List.length_singleton] at el
    by_cases c : e = EE.length
    · subst c
      rw [List.getElem?_append_right (Nat.le_refl _), Nat.sub_self] at he
      cases he
      rw [q_upe, q_upe, q_upe, q_upe, h3 _ (q_cNl z)]
      exact ⟨hx, rfl, rfl, hd, q_lse _ (fun e' he' => (q_pca he').symm)⟩
    · rw [List.getElem?_append_left (by omega)] at he
      obtain ⟨a1, a2, a3, a4, a5⟩ := h2 e y he
      rw [q_upn c, q_upn c, q_upn c, q_upn c]
      exact ⟨a1, a2, a3, a4, a5.trans (q_lse _ (fun e' he' => (q_pca (by omega)).symm))⟩
  · rw [List.length_append, List.length_singleton]
    show _ = if q_pc (EE ++ [(z, d)]) c EE.length = true then iN EE.length else q_lst (q_pc (EE ++ [(z, d)]) c) EE.length
    have e : q_pc (EE ++ [(z, d)]) c EE.length = decide (q_cN z = c) := by
      unfold q_pc
      rw [List.getElem?_append_right (Nat.le_refl _), Nat.sub_self]
      rfl
    rw [e, q_lse _ (fun e' he' => q_pca he')]
    by_cases cc : q_cN z = c
    · subst cc
      rw [q_upe, decide_eq_true rfl, if_pos rfl, h1]
    · rw [q_upn (fun q => cc q.symm), decide_eq_false cc, if_neg (by decide)]
      exact h3 c hc
theorem c_rem_h {kb : Nat} {b : Nat → UInt8} {EE : q_E} {fict x : Int32} {fch fnx flv fhs fdo : Nat → Int32} {z : q_V} {d : Nat} (h : q_FE kb b EE fict fch fnx flv fhs fdo) (hl : EE.length < 13533) (hx : q_kg kb 0 0 b x z) (hd : d < 200) :
    ∀ (n i : Nat) (x5 : Int32), i + n = EE.length + 1 → 0 < n → (x5 = -1 ∨ ∃ e, e < EE.length ∧ x5 = iN e) →
    (tw_FI_remember_h28 b x (iN d) (q_hs 20 z.1 z.2) (tw_FI_chainOf (q_hs 20 z.1 z.2)) n x5 (iN i) fict fch fnx flv fhs fdo = (fict, fch, fnx, flv, fhs, fdo) ∧ ∃ y ∈ EE, y.2 = d ∧ q_ov2 20 z y.1 = 0) ∨
    tw_FI_remember_h28 b x (iN d) (q_hs 20 z.1 z.2) (tw_FI_chainOf (q_hs 20 z.1 z.2)) n x5 (iN i) fict fch fnx flv fhs fdo = (fict + 1, upd fch (q_cN z) fict, upd fnx EE.length (fch (q_cN z)), upd flv EE.length x, upd fhs EE.length (q_hs 20 z.1 z.2), upd fdo EE.length (iN d)) := by
  obtain ⟨h1, h2, h3⟩ := h
  have g1 : ¬ (13533 : Int32) ≤ fict := by
    rw [h1]
    simp (disch := omega) only [i_13533, iN_a, iN_c, iN_le, iN_lt, iN_eq, iN_i]
    omega
  have fc : fict.toNatClampNeg = EE.length := by
    rw [h1, iN_c (by omega)]
  intro n
  induction n with
  | zero => exact fun _ _ _ q => absurd q (by omega)
  | succ n ih =>
    intro i x5 hi hn hx5
    unfold tw_FI_remember_h28
    by_cases c1 : EE.length ≤ i
    · right
      rw [if_pos (by rw [h1]; simp (disch := omega) only [iN_a, iN_c, iN_le, iN_lt, iN_eq, iN_i]; omega), if_neg g1, fc]
      rfl
    rw [if_neg (by rw [h1]; simp (disch := omega) only [iN_a, iN_c, iN_le, iN_lt, iN_eq, iN_i]; omega)]
    rcases hx5 with rfl | ⟨e, he, rfl⟩
    · right
      rw [if_pos (show (-1 : Int32) < 0 by decide), if_neg g1, fc]
      rfl
    obtain ⟨a1, a2, a3, a4, a5⟩ := h2 e _ (List.getElem?_eq_getElem he)
    rw [if_neg (by simp (disch := omega) only [i_0, iN_a, iN_c, iN_le, iN_lt, iN_eq, iN_i]; omega), if_neg (by rw [h1]; simp (disch := omega) only [iN_a, iN_c, iN_le, iN_lt, iN_eq, iN_i]; omega), iN_c (by omega), a3]
    have nx : fnx e = -1 ∨ ∃ e', e' < EE.length ∧ fnx e = iN e' := by
      rw [a5]
      rcases q_lsv (q_pc EE (q_cN EE[e].1)) e with q | ⟨e', q1, q2⟩
      · exact Or.inl q
      · exact Or.inr ⟨e', by omega, q2⟩
    have go := ih (i + 1) (fnx e) (by omega) (by omega) nx
    rw [show iN i + 1 = iN (i + 1) from iN_a i 1]
    by_cases c2 : EE[e].2 = d
    · rw [if_pos (by rw [c2]), a2, c_kr (q_kgr hx) (q_kgr a1)]
      by_cases c3 : q_hs 20 EE[e].1.1 EE[e].1.2 = q_hs 20 z.1 z.2
      · rw [if_pos c3]
        by_cases c4 : q_ov2 20 z EE[e].1 = 0
        · left
          rw [if_pos c4]
          exact ⟨rfl, EE[e], List.getElem_mem he, c2, c4⟩
        · rw [if_neg c4]
          exact go
      · rw [if_neg c3]
        exact go
    · right
      rw [if_neg (by simp (disch := omega) only [iN_a, iN_c, iN_le, iN_lt, iN_eq, iN_i]; omega), if_neg g1, fc]
      rfl
theorem c_rem {kb : Nat} {b : Nat → UInt8} {EE : q_E} {fict x : Int32} {fch fnx flv fhs fdo : Nat → Int32} {z : q_V} {d : Nat} (h : q_FE kb b EE fict fch fnx flv fhs fdo) (hl : EE.length < 13533) (hx : q_kg kb 0 0 b x z) (hd : d < 200) :
    ∃ f1 f2 f3 f4 f5 f6 EE', tw_FI_remember b fict fch fnx flv fhs fdo x (iN d) = (f1, f2, f3, f4, f5, f6) ∧ q_FE kb b EE' f1 f2 f3 f4 f5 f6 ∧ ((EE' = EE ∧ ∃ y ∈ EE, y.2 = d ∧ q_ov2 20 z y.1 = 0) ∨ EE' = EE ++ [(z, d)]) := by
  have hh := c_hkr (q_kgr hx)
  unfold tw_FI_remember
  rw [hh]
  have st : fch (tw_FI_chainOf (q_hs 20 z.1 z.2)).toNatClampNeg = -1 ∨ ∃ e, e < EE.length ∧ fch (tw_FI_chainOf (q_hs 20 z.1 z.2)).toNatClampNeg = iN e := by
    have := h.2.2 _ (q_cNl z)
    change fch (tw_FI_chainOf (q_hs 20 z.1 z.2)).toNatClampNeg = _ at this
    rw [this]
    exact q_lsv _ _
  have R := c_rem_h h hl hx hd (((fict.toInt - (0 : Int32).toInt).toNat) + 1) 0 _ (by rw [h.1, iN_i (by omega)]; show 0 + (((EE.length : Nat) - (0 : Int)).toNat + 1) = EE.length + 1; omega) (by omega) st
  rw [show iN 0 = (0 : Int32) from rfl] at R
  rcases R with ⟨r1, r2⟩ | r1
  · exact ⟨_, _, _, _, _, _, EE, r1, h, Or.inl ⟨rfl, r2⟩⟩
  · exact ⟨_, _, _, _, _, _, EE ++ [(z, d)], r1, q_FEa h hl hx hd, Or.inr rfl⟩
