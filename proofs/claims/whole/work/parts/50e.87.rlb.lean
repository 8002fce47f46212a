/-! the pure part: the reference's $lookup: what belongs -/
def q_l1 (L : List q_L) : List q_L := if L = [] then [q_ms] else L
theorem q_l1w (L : List q_L) : q_lvw L = (q_l1 L).map q_nuv := by
  unfold q_lvw q_l1
  by_cases c : L = []
  · rw [if_pos c, if_pos c]
    rfl
  · rw [if_neg c, if_neg c]
theorem q_l1l (L : List q_L) : (q_l1 L).length ≤ L.length + 1 ∧ 0 < (q_l1 L).length := by
  unfold q_l1
  cases L with
  | nil => exact ⟨by decide, by decide⟩
  | cons z r =>
    rw [if_neg (by simp), List.length_cons]
    omega
theorem q_l1m {L : List q_L} {z : q_L} (h : z ∈ q_l1 L) : z ∈ L ∨ z = q_ms := by
  unfold q_l1 at h
  split at h
  · exact Or.inr (List.mem_singleton.1 h)
  · exact Or.inl h
/-- arrays hold leaves from o on -/
def q_la2 (lkd lat : Nat → Int32) (o p : Nat) (L : List q_L) : Prop := ∀ i z, L[i]? = some z → lkd (o + i) = q_lk z ∧ lat (o + i) = q_la p z
/-- a leaf, or a null for what is missing -/
def q_lR (st : Nat → Int32) (p : Nat) (z : q_L) : Prop := q_kR st (iN (q_nuv z).1.toNat) (q_la p z) (q_nuv z)
theorem q_lRl {st : Nat → Int32} {p : Nat} {xs : List (List UInt8)} {v : List UInt8} {z : q_L} (ho : q_ok 16 3 v) (hv : v.length ≤ 2000) (hs : sm st p v) (hp : p + v.length ≤ 136400) (h : z ∈ q_l1 (q_lD xs v)) : q_lR st p z ∧ (if q_lk z = 0 then (10 : Int32) else q_lk z) = iN (q_nuv z).1.toNat := by
  have ms : q_lR st p q_ms ∧ (if q_lk q_ms = 0 then (10 : Int32) else q_lk q_ms) = iN (q_nuv q_ms).1.toNat := ⟨⟨rfl, 0, rfl, Or.inl q_ok10, trivial, Nat.zero_le _, Nat.zero_le _⟩, rfl⟩
  rcases q_l1m h with h | rfl
  · rcases q_lDo ho hv h with rfl | ⟨h1, h2⟩
    · exact ms
    · have kn := q_okn h1
      have := q_ile h2
      have nz : ¬ z.2.1 = 0 := fun q => kn.2 (by rw [q]; rfl)
      have e : q_nuv z = z.2 := if_neg nz
      unfold q_lR
      rw [e]
      unfold q_lk q_la
      rw [if_neg nz, if_neg (by simp (disch := omega) only [i_0, iN_a, iN_c, iN_le, iN_lt, iN_eq, iN_i]; omega)]
      exact ⟨⟨rfl, p + z.1, rfl, Or.inl h1, q_ism h2 hs, by omega, by omega⟩, rfl⟩
  · exact ms
theorem r_b33 {fu p q i : Nat} {st lkd lat : Nat → Int32} {p0 : Int32} {C : Int32 → Option Bool} {z : q_L} {L2 : List q_L} (hf : 2500 ≤ fu) (hi : i < 30000) (hzl : lat i = q_la p z) (hz : q_lR st p z) (h2 : q_la2 lkd lat 30000 q L2) (hl : L2.length ≤ 29500) (hv : ∀ w ∈ L2, q_lR st q w ∧ (if q_lk w = 0 then (10 : Int32) else q_lk w) = iN (q_nuv w).1.toNat) :
    ∀ (m j n : Nat), j + m = L2.length → m < n → tw_MO_belongs_h33 fu C (iN (30000 + L2.length)) st lkd lat p0 (iN i) (iN (q_nuv z).1.toNat) n (iN (30000 + j)) = if (L2.drop j).any (fun w => decide (q_ov2 20 (q_nuv z) (q_nuv w) = 0)) = true then some true else C (iN (30000 + L2.length)) := by
  intro m
  induction m with
  | zero =>
    intro j n hj hn
    obtain ⟨n, rfl⟩ : ∃ m, n = m + 1 := ⟨n - 1, by omega⟩
    have : j = L2.length := by omega
    subst this
    unfold tw_MO_belongs_h33
    rw [if_pos (Int32.le_refl _), List.drop_length]
    rfl
  | succ m ih =>
    intro j n hj hn
    obtain ⟨n, rfl⟩ : ∃ m, n = m + 1 := ⟨n - 1, by omega⟩
    have jl : j < L2.length := by omega
    obtain ⟨a1, a2⟩ := h2 j _ (List.getElem?_eq_getElem jl)
    obtain ⟨v1, v2⟩ := hv _ (List.getElem_mem jl)
    have od := r_kr (fu := fu) hf hz v1
    have I := ih (j + 1) n (by omega) (by omega)
    have st1 : iN (30000 + j) + 1 = iN (30000 + (j + 1)) := by
      rw [← Nat.add_assoc]
      exact iN_a _ 1
    unfold tw_MO_belongs_h33
    rw [if_neg (by simp (disch := omega) only [iN_a, iN_c, iN_le, iN_lt, iN_eq, iN_i]; omega), if_pos (by simp (disch := omega) only [i_0, i_60000, iN_a, iN_c, iN_le, iN_lt, iN_eq, iN_i]; omega), if_pos (by simp (disch := omega) only [i_0, i_60000, iN_a, iN_c, iN_le, iN_lt, iN_eq, iN_i]; omega), iN_c (show i < 2147483648 by omega), iN_c (show 30000 + j < 2147483648 by omega), a1, a2, hzl, st1, I, List.drop_eq_getElem_cons jl, List.any_cons]
    have fin : (if q_ov2 20 (q_nuv z) (q_nuv L2[j]) = 0 then some true else if (L2.drop (j + 1)).any (fun w => decide (q_ov2 20 (q_nuv z) (q_nuv w) = 0)) = true then some true else C (iN (30000 + L2.length))) = if (decide (q_ov2 20 (q_nuv z) (q_nuv L2[j]) = 0) || (L2.drop (j + 1)).any (fun w => decide (q_ov2 20 (q_nuv z) (q_nuv w) = 0))) = true then some true else C (iN (30000 + L2.length)) := by
      by_cases c : q_ov2 20 (q_nuv z) (q_nuv L2[j]) = 0
      · rw [if_pos c, decide_eq_true c, Bool.true_or, if_pos rfl]
      · rw [if_neg c, decide_eq_false c, Bool.false_or]
    by_cases c : q_lk L2[j] = 0
    · rw [if_pos c] at v2
      rw [if_pos c, v2, od, obs1]
      exact fin
    · rw [if_neg c] at v2
      rw [if_neg c, v2, od, obs1]
      exact fin
theorem r_b2 {fu p q : Nat} {st lkd lat : Nat → Int32} {C : Int32 → Option Bool} {L1 L2 : List q_L} (hf : 60000 ≤ fu) (h1 : q_la2 lkd lat 0 p L1) (hl1 : L1.length ≤ 29500) (hv1 : ∀ w ∈ L1, q_lR st p w ∧ (if q_lk w = 0 then (10 : Int32) else q_lk w) = iN (q_nuv w).1.toNat) (h2 : q_la2 lkd lat 30000 q L2) (hl : L2.length ≤ 29500) (hv : ∀ w ∈ L2, q_lR st q w ∧ (if q_lk w = 0 then (10 : Int32) else q_lk w) = iN (q_nuv w).1.toNat) (hC : ∀ x, C x = some false) :
    ∀ (m i n : Nat), i + m = L1.length → m < n → tw_MO_belongs_h2 fu C (iN (30000 + L2.length)) st lkd lat (iN L1.length) n (iN i) = some ((L1.drop i).any (fun z => L2.any (fun w => decide (q_ov2 20 (q_nuv z) (q_nuv w) = 0)))) := by
  intro m
  induction m with
  | zero =>
    intro i n hi hn
    obtain ⟨n, rfl⟩ : ∃ m, n = m + 1 := ⟨n - 1, by omega⟩
    have : i = L1.length := by omega
    subst this
    unfold tw_MO_belongs_h2
    rw [if_pos (Int32.le_refl _), List.drop_length, hC]
    rfl
  | succ m ih =>
    intro i n hi hn
    obtain ⟨n, rfl⟩ : ∃ m, n = m + 1 := ⟨n - 1, by omega⟩
    have il : i < L1.length := by omega
    obtain ⟨a1, a2⟩ := h1 i _ (List.getElem?_eq_getElem il)
    rw [Nat.zero_add] at a1 a2
    obtain ⟨v1, v2⟩ := hv1 _ (List.getElem_mem il)
    have I := ih (i + 1) n (by omega) (by omega)
    have B := fun (C' : Int32 → Option Bool) => r_b33 (fu := fu) (p := p) (q := q) (i := i) (st := st) (lkd := lkd) (lat := lat) (p0 := iN L1.length) (C := C') (z := L1[i]) (L2 := L2) (by omega) (by omega) a2 v1 h2 hl hv L2.length 0 fu (by omega) (by omega)
    unfold tw_MO_belongs_h2 tw_MO_belongs_r7
    rw [if_neg (by simp (disch := omega) only [iN_a, iN_c, iN_le, iN_lt, iN_eq, iN_i]; omega), if_pos (by simp (disch := omega) only [i_0, i_60000, iN_a, iN_c, iN_le, iN_lt, iN_eq, iN_i]; omega), iN_c (by omega), a1, show iN i + 1 = iN (i + 1) from iN_a i 1, I, List.drop_eq_getElem_cons il, List.any_cons]
    have fin : ∀ x : Int32, x = iN (q_nuv L1[i]).1.toNat → tw_MO_belongs_h33 fu (fun (x4_13 : Int32) => some ((L1.drop (i + 1)).any (fun z => L2.any (fun w => decide (q_ov2 20 (q_nuv z) (q_nuv w) = 0))))) (iN (30000 + L2.length)) st lkd lat (iN L1.length) (iN i) x fu 30000 = some (L2.any (fun w => decide (q_ov2 20 (q_nuv L1[i]) (q_nuv w) = 0)) || (L1.drop (i + 1)).any (fun z => L2.any (fun w => decide (q_ov2 20 (q_nuv z) (q_nuv w) = 0)))) := by
      intro x hx
      have b := B (fun (x4_13 : Int32) => some ((L1.drop (i + 1)).any (fun z => L2.any (fun w => decide (q_ov2 20 (q_nuv z) (q_nuv w) = 0)))))
      rw [Nat.add_zero, List.drop_zero] at b
      rw [hx, show (30000 : Int32) = iN 30000 from rfl, b]
      cases hq : L2.any (fun w => decide (q_ov2 20 (q_nuv L1[i]) (q_nuv w) = 0)) with
      | true => rfl
      | false => rfl
    by_cases c : q_lk L1[i] = 0
    · rw [if_pos c] at v2
      rw [if_pos c]
      exact fin 10 v2
    · rw [if_neg c] at v2
      rw [if_neg c]
      exact fin _ v2
theorem r_bel {fu p q : Nat} {st lkd lat : Nat → Int32} {L1 L2 : List q_L} (hf : 60000 ≤ fu) (h1 : q_la2 lkd lat 0 p L1) (hl1 : L1.length ≤ 29500) (hv1 : ∀ w ∈ L1, q_lR st p w ∧ (if q_lk w = 0 then (10 : Int32) else q_lk w) = iN (q_nuv w).1.toNat) (h2 : q_la2 lkd lat 30000 q L2) (hl : L2.length ≤ 29500) (hv : ∀ w ∈ L2, q_lR st q w ∧ (if q_lk w = 0 then (10 : Int32) else q_lk w) = iN (q_nuv w).1.toNat) :
    tw_MO_belongs fu (iN (30000 + L2.length)) st lkd lat (iN L1.length) = some (L1.any (fun z => L2.any (fun w => decide (q_ov2 20 (q_nuv z) (q_nuv w) = 0)))) := by
  unfold tw_MO_belongs
  have := r_b2 (C := fun (x2_14 : Int32) => some false) hf h1 hl1 hv1 h2 hl hv (fun _ => rfl) L1.length 0 fu (by omega) (by omega)
  rw [List.drop_zero] at this
  exact this
/-- leaves are found, at least one -/
theorem r_lv1 {fu P s c : Nat} {st lkd lat : Nat → Int32} {xs : List (List UInt8)} {v : List UInt8} (hf : 2500 ≤ fu) (hc : c = 0 ∨ c = 30000) (hP : P + v.length < 136400) (hx : ∀ x ∈ xs, q_gs x) (hx0 : xs ≠ []) (hx8 : xs.length ≤ 8) (hsq : q_sq st s xs) (ho : q_ok 16 3 v) (h : sm st P v) (hv : v.length ≤ 2000) :
    ∃ lkd1 lat1, tw_MO_lvs0 fu st (iN c) lkd lat 3 (iN P) (iN s) = some (iN (c + (q_lD xs v).length), lkd1, lat1) ∧ (∀ j, j < c → lkd1 j = lkd j ∧ lat1 j = lat j) ∧ (q_lD xs v = [] → tw_MO_leaf fu (iN c) lkd1 lat1 0 0 = some (iN (c + 1), upd lkd1 c 0, upd lat1 c 0)) ∧ (q_lD xs v ≠ [] → q_la2 lkd1 lat1 c P (q_lD xs v)) ∧ (q_lD xs v).length ≤ 29000 := by
  have lb := q_lDb ho hv hx hx0 hx8
  have lv := r_lv (fu := fu) (p := P) (st := st) hf 16 26 26 0 s c 3 v xs lkd lat ho h (by omega) (by omega) hx hsq (by omega) (by omega) (show q_cap c (q_lD xs v).length from ⟨by omega, by omega⟩)
  have st0 : q_st s xs = s := by
    cases xs with
    | nil => exact absurd rfl hx0
    | cons x r => rfl
  rw [st0, Nat.add_zero] at lv
  replace lv : tw_MO_lvs0 fu st (iN c) lkd lat 3 (iN P) (iN s) = q_lr P c lkd lat (q_lD xs v) := lv
  refine ⟨_, _, lv, fun j hj => ?_, fun _ => r_lf (by omega) (by omega), fun _ i z hz => ?_, lb⟩
  · rw [q_wrg, q_wrg, if_neg (by omega), if_neg (by omega)]
    exact ⟨rfl, rfl⟩
  · have il := (List.getElem?_eq_some_iff.1 hz).1
    rw [q_wrg, q_wrg, if_pos (by rw [List.length_map]; omega), if_pos (by rw [List.length_map]; omega), show c + i - c = i by omega, List.getD_eq_getElem?_getD, List.getD_eq_getElem?_getD, List.getElem?_map, List.getElem?_map, hz]
    exact ⟨rfl, rfl⟩
