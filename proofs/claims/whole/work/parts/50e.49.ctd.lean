/-! the pure part: the class's way through documents -/
/-- the places of the documents on the way, where it ends, what lies there -/
def q_dn : List (List UInt8) → Nat → q_V → Option (List Nat × Nat × q_V)
  | [], P, v => some ([], P, v)
  | x :: xs, P, v => if v.1 = 3 then (match q_fn x (q_ps v.2) with | none => none | some y => (q_dn xs (P + 4 + y.1 + y.2.2.1.length + 2) (y.2.1, y.2.2.2)).map (fun r => (P :: r.1, r.2))) else none
theorem q_dnc (x : List UInt8) (xs : List (List UInt8)) (P : Nat) (v : q_V) : q_dn (x :: xs) P v = if v.1 = 3 then (match q_fn x (q_ps v.2) with | none => none | some y => (q_dn xs (P + 4 + y.1 + y.2.2.1.length + 2) (y.2.1, y.2.2.2)).map (fun r => (P :: r.1, r.2))) else none := rfl
theorem q_dnt : ∀ (xs : List (List UInt8)) (P : Nat) (v : q_V), (q_dn xs P v).map (fun r => r.2.2) = q_th xs v := by
  intro xs
  induction xs with
  | nil => exact fun _ _ => rfl
  | cons x xs ih =>
    intro P v
    rw [q_dnc, q_thc]
    split
    · cases hq : q_fn x (q_ps v.2) with
      | none => rfl
      | some y =>
        dsimp only
        rw [← ih (P + 4 + y.1 + y.2.2.1.length + 2) (y.2.1, y.2.2.2)]
        cases q_dn xs (P + 4 + y.1 + y.2.2.1.length + 2) (y.2.1, y.2.2.2) <;> rfl
    · rfl
def q_ref1 (r : Option (List Nat × Nat × q_V)) : Int32 := match r with | none => 0 | some r => iN (32 * r.2.1 + r.2.2.1.toNat)
theorem c_td_h {b : Nat → UInt8} {pst pen pix : Nat → Int32} {xs : List (List UInt8)} (hpa : q_pa b pst pen pix xs) (h8 : xs.length ≤ 8) :
    ∀ (m j n P d : Nat) (k : UInt8) (v : List UInt8) (pho : Nat → Int32), j + m = xs.length → m < n → q_ok d k v → sb b P v → P + v.length ≤ 122000 → v.length ≤ 2000 →
    ∃ pho', tw_PA_throughDocuments_h4 (iN xs.length) b pst pen n (iN (32 * P + k.toNat)) (iN j) pho = (q_ref1 (q_dn (xs.drop j) P (k, v)), pho') ∧ (∀ i, i < j → pho' i = pho i) ∧ (∀ r, q_dn (xs.drop j) P (k, v) = some r → ∀ i q, r.1[i]? = some q → pho' (j + i) = iN q) := by
  have k0 : tw_ST_kindOf 0 = 0 := by decide
  intro m
  induction m with
  | zero =>
    intro j n P d k v pho hj hn ho h hp hl
    obtain ⟨n, rfl⟩ : ∃ i, n = i + 1 := ⟨n - 1, by omega⟩
    have : j = xs.length := by omega
    subst this
    unfold tw_PA_throughDocuments_h4
    rw [if_pos (Int32.le_refl _), List.drop_length]
    refine ⟨pho, rfl, fun _ _ => rfl, fun r hr i q hq => ?_⟩
    cases hr
    cases hq
  | succ m ih =>
    intro j n P d k v pho hj hn ho h hp hl
    obtain ⟨n, rfl⟩ : ∃ i, n = i + 1 := ⟨n - 1, by omega⟩
    have jl : j < xs.length := by omega
    have kn := q_okn ho
    unfold tw_PA_throughDocuments_h4
    rw [if_neg (by simp (disch := omega) only [iN_a, iN_c, iN_le, iN_lt, iN_eq, iN_i]; omega), if_neg (by simp (disch := omega) only [i_8, iN_a, iN_c, iN_le, iN_lt, iN_eq, iN_i]; omega), show tw_ST_kindOf (iN (32 * P + k.toNat)) = iN k.toNat from q_k (by omega) kn.1, show tw_ST_placeOf (iN (32 * P + k.toNat)) = iN P from q_p (by omega) kn.1, List.drop_eq_getElem_cons jl, q_dnc]
    by_cases k3 : k = 3
    rotate_left
    · rw [if_neg (fun z => k3 (by rw [show (3 : Int32) = iN 3 from rfl, iN_eq (by omega) (by omega), q_ko k 3 (by omega)] at z; exact z)), if_neg (show ¬ (k, v).1 = 3 from k3)]
      exact ⟨pho, rfl, fun _ _ => rfl, fun r hr => by cases hr⟩
    subst k3
    obtain ⟨e, ps, he, rfl, o1, o2⟩ := q_okd ho (Or.inl rfl)
    have bl := q_bxl ps
    obtain ⟨a, pa1, pa2, pa3, pa4, pa5⟩ := hpa j xs[j] (List.getElem?_eq_getElem jl)
    have fi := q_fi (x := xs[j]) (k := 3) (Or.inl rfl) h o1 (by omega) (by omega) pa3 (by omega)
    rw [if_pos (show iN (3 : UInt8).toNat = 3 from rfl), if_pos (show ((3 : UInt8), q_bx ps).1 = 3 from rfl), iN_c (by omega), pa1, pa2, fi, show iN j + 1 = iN (j + 1) from iN_a j 1, q_psb o1 (show (q_bx ps).length < 4294967296 by omega)]
    cases hq : q_fn xs[j] ps with
    | none =>
      rw [show q_fv (P + 4) none = 0 from rfl]
      obtain ⟨n, rfl⟩ : ∃ i, n = i + 1 := ⟨n - 1, by omega⟩
      unfold tw_PA_throughDocuments_h4
      rw [k0, if_neg (show ¬ (0 : Int32) = 3 by decide), ite_self, ite_self]
      exact ⟨_, rfl, fun i hi => q_upn (by omega), fun r hr => by cases hr⟩
    | some y =>
      obtain ⟨f1, f2, a2, cc2, f3, f4⟩ := q_fnm (o := y.1) (y := y.2) hq
      have il := q_inl (a := a2) (c := cc2) (x := y.2)
      rw [← f3, ← f4] at il
      have hin : sb b (P + 4 + y.1) (q_e1 y.2) := by
        have h'' := h
        rw [f3] at h''
        have := sb_in h''
        rwa [← f4] at this
      have s1 := sb_e1 hin
      obtain ⟨o3, o4⟩ := o1 y.2 f1
      rw [show q_fv (P + 4) (some y) = iN (32 * (P + 4 + y.1 + y.2.2.1.length + 2) + y.2.1.toNat) from rfl]
      obtain ⟨pho', t1, t2, t3⟩ := ih (j + 1) n (P + 4 + y.1 + y.2.2.1.length + 2) e y.2.1 y.2.2.2 (upd pho j (iN P)) (by omega) (by omega) o4 s1.2.2.2 (by omega) (by omega)
      dsimp only
      refine ⟨pho', ?_, fun i hi => ?_, fun r hr i q hiq => ?_⟩
      · rw [t1]
        cases q_dn (xs.drop (j + 1)) (P + 4 + y.1 + y.2.2.1.length + 2) (y.2.1, y.2.2.2) <;> rfl
      · rw [t2 i (by omega), q_upn (by omega)]
      · cases hr2 : q_dn (xs.drop (j + 1)) (P + 4 + y.1 + y.2.2.1.length + 2) (y.2.1, y.2.2.2) with
        | none =>
          rw [hr2] at hr
          cases hr
        | some r2 =>
          rw [hr2] at hr
          cases hr
          cases i with
          | zero =>
            cases hiq
            rw [Nat.add_zero, t2 j (by omega), q_upe]
          | succ i =>
            rw [show j + (i + 1) = j + 1 + i by omega]
            exact t3 r2 hr2 i q hiq
