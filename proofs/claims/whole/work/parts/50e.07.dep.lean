/-! the pure part: how deep a value is -/
def q_mx (f : UInt8 → List UInt8 → Nat) : List q_P → Nat
  | [] => 0
  | x :: r => max (f x.1 x.2.2) (q_mx f r)
def q_dp : Nat → UInt8 → List UInt8 → Nat
  | 0, _, _ => 0
  | d + 1, k, v => if k = 3 ∨ k = 4 then q_mx (q_dp d) (q_ps v) + 1 else 0
theorem q_mxl {f : UInt8 → List UInt8 → Nat} {c : Nat} {ps : List q_P} : c < q_mx f ps ↔ ∃ x ∈ ps, c < f x.1 x.2.2 := by
  induction ps with
  | nil => simp [q_mx]
  | cons x r ih =>
    unfold q_mx
    simp only [List.mem_cons, exists_eq_or_imp, ← ih]
    omega
theorem q_dpo {d : Nat} : ∀ {e m : Nat} {k : UInt8} {v : List UInt8}, q_ok d k v → d ≤ m → v.length < 4294967296 → q_dp m k v ≤ e → q_ok e k v := by
  induction d with
  | zero =>
    intro e m k v h _ _ _
    exact q_okm h (Nat.zero_le _)
  | succ d ih =>
    intro e m k v h hm hv he
    obtain ⟨m, rfl⟩ : ∃ j, m = j + 1 := ⟨m - 1, by omega⟩
    rcases h with h | ⟨hk, ps, rfl, h1, h2⟩
    · exact q_okm (d := 0) h (Nat.zero_le _)
    · unfold q_dp at he
      rw [if_pos hk, q_psb h1 hv] at he
      obtain ⟨e, rfl⟩ : ∃ j, e = j + 1 := ⟨e - 1, by omega⟩
      refine Or.inr ⟨hk, ps, rfl, fun x hx => ⟨(h1 x hx).1, ih (m := m) (h1 x hx).2 (by omega) ?_ ?_⟩, h2⟩
      · have := q_enm hx
        rw [q_bxl] at hv
        omega
      · refine Nat.le_of_not_lt (fun q => ?_)
        have := q_mxl.2 ⟨x, hx, q⟩
        omega
theorem q_dpl {d : Nat} : ∀ {m : Nat} {k : UInt8} {v : List UInt8}, q_ok d k v → v.length < 4294967296 → q_dp m k v ≤ d := by
  induction d with
  | zero =>
    intro m k v h hv
    cases m with
    | zero => exact Nat.le_refl _
    | succ m =>
      unfold q_dp
      rw [if_neg (fun e => q_lfk h e)]
      exact Nat.le_refl _
  | succ d ih =>
    intro m k v h hv
    cases m with
    | zero => exact Nat.zero_le _
    | succ m =>
      unfold q_dp
      split
      · next hk =>
        obtain ⟨e, ps, he, rfl, h1, h2⟩ := q_okd h hk
        obtain rfl : e = d := by omega
        rw [q_psb h1 hv]
        refine Nat.succ_le_succ (Nat.le_of_not_lt (fun q => ?_))
        obtain ⟨x, hx, q⟩ := q_mxl.1 q
        have := q_enm hx
        rw [q_bxl] at hv
        have := ih (m := m) (h1 x hx).2 (by omega)
        omega
      · exact Nat.zero_le _
theorem q_td_h {fc : Int32 → Bool} {b : Nat → UInt8} {p1 : Int32} {g : q_P → Bool} {d : Nat} : ∀ (ps : List q_P) (e n i : Nat), sb b e (q_en ps) → q_op d ps → e + (q_en ps).length < 202000 → ps.length < n → i + ps.length ≤ 1000 →
    (∀ x ∈ ps, (x.1 = 3 ∨ x.1 = 4) → ∀ p, sb b p x.2.2 → p + x.2.2.length ≤ 202000 → fc (iN (32 * p + x.1.toNat)) = g x) →
    tw_ST_isTooDeep_h27 fc b p1 (iN (e + (q_en ps).length)) n (iN e) (iN i) = ps.any (fun x => decide (x.1 = 3 ∨ x.1 = 4) && g x) := by
  intro ps
  induction ps with
  | nil =>
    intro e n i _ _ hp hn hi _
    obtain ⟨n, rfl⟩ : ∃ m, n = m + 1 := ⟨n - 1, by omega⟩
    unfold tw_ST_isTooDeep_h27
    simp only [q_en, List.length_nil, Nat.add_zero] at *
    simp (disch := omega) only [i_1000, iN_a, iN_c, iN_le, iN_lt, iN_eq, iN_i]
    simp
  | cons x r ih =>
    intro e n i h ho hp hn hi hf
    obtain ⟨n, rfl⟩ : ∃ m, n = m + 1 := ⟨n - 1, by omega⟩
    obtain ⟨h1, h2⟩ := sb_en h
    obtain ⟨ha, hb⟩ := ho x List.mem_cons_self
    have e1 := q_e1l x
    have e2 := q_enl x r
    have kx := (q_okn hb).1
    have s1 := sb_e1 h1
    rw [List.length_cons] at *
    have IH := ih (e + (q_e1 x).length) n (i + 1) h2 (fun y hy => ho y (List.mem_cons_of_mem _ hy)) (by omega) (by omega) (by omega) (fun y hy => hf y (List.mem_cons_of_mem _ hy))
    rw [show e + (q_e1 x).length + (q_en r).length = e + (q_en (x :: r)).length by omega] at IH
    unfold tw_ST_isTooDeep_h27 tw_ST_kindOf
    rw [q_vo h1 kx ha (by omega), q_eo hb s1.2.2.2 (by omega)]
    simp (disch := omega) only [i_1, i_3, i_4, i_31, i_1000, q_k, iN_a, iN_c, iN_le, iN_lt, iN_eq, iN_i, qk_3, qk_4]
    rw [if_neg (by omega), if_neg (by omega), show e + x.2.1.length + 2 + x.2.2.length = e + (q_e1 x).length by omega, IH, List.any_cons]
    have F := fun hk => hf x List.mem_cons_self hk _ s1.2.2.2 (by omega)
    by_cases k3 : x.1 = 3
    · rw [if_pos k3, F (Or.inl k3)]
      cases hg : g x <;> simp [k3, b2i]
    · rw [if_neg k3]
      by_cases k4 : x.1 = 4
      · rw [if_pos k4, F (Or.inr k4)]
        cases hg : g x <;> simp [k4, b2i]
      · rw [if_neg k4]
        have : decide (x.1 = 3 ∨ x.1 = 4) = false := decide_eq_false (by rintro (e | e); exact k3 e; exact k4 e)
        rw [this]
        simp
theorem q_td {b : Nat → UInt8} : ∀ (n d m D p : Nat) (k : UInt8) (v : List UInt8), D + n = 17 → (k = 3 ∨ k = 4) → q_ok d k v → d ≤ m → sb b p v → p + v.length ≤ 202000 → v.length ≤ 2005 →
    tw_ST_dp n b (iN (32 * p + k.toNat)) (iN D) = decide (17 < D + q_dp m k v) := by
  intro n
  induction n with
  | zero =>
    intro d m D p k v hD hk ho hm h hp hv
    obtain ⟨e, ps, he, rfl, o1, _⟩ := q_okd ho hk
    obtain ⟨m, rfl⟩ : ∃ j, m = j + 1 := ⟨m - 1, by omega⟩
    unfold tw_ST_dp tw_ST_isTooDeep q_dp
    simp (disch := omega) only [i_16, iN_a, iN_c, iN_le, iN_lt, iN_eq, iN_i]
    rw [if_neg (by omega), if_pos hk]
    exact (decide_eq_true (by omega)).symm
  | succ n ih =>
    intro d m D p k v hD hk ho hm h hp hv
    obtain ⟨e, ps, he, rfl, o1, _⟩ := q_okd ho hk
    obtain ⟨m, rfl⟩ : ∃ j, m = j + 1 := ⟨m - 1, by omega⟩
    have kk : k.toNat < 32 := by rcases hk with rfl | rfl <;> decide
    have pl := q_psl ps
    rw [q_bxl] at *
    unfold tw_ST_dp tw_ST_isTooDeep q_dp tw_ST_placeOf
    rw [q_eo4 (sb_bx h).1 (by omega) (by omega) hk]
    simp (disch := omega) only [i_0, i_1, i_4, i_5, i_16, i_31, i_1000, q_p, iN_a, iN_c, iN_le, iN_lt, iN_eq, iN_i, iN_s]
    rw [if_pos (by omega), if_pos hk, q_psb o1 (by rw [q_bxl]; omega), show p + ((q_en ps).length + 5) - 1 = p + 4 + (q_en ps).length by omega]
    rw [q_td_h (g := fun x => decide (17 < D + 1 + q_dp m x.1 x.2.2)) ps (p + 4) _ 0 (sb_bx h).2.1 o1 (by omega) (by omega) (by omega)]
    · rw [Bool.eq_iff_iff, List.any_eq_true, decide_eq_true_iff]
      constructor
      · rintro ⟨x, hx, q⟩
        simp only [Bool.and_eq_true, decide_eq_true_eq] at q
        have : 16 - D < q_mx (q_dp m) ps := q_mxl.2 ⟨x, hx, by omega⟩
        omega
      · intro q
        obtain ⟨x, hx, q⟩ := q_mxl.1 (show 16 - D < q_mx (q_dp m) ps by omega)
        refine ⟨x, hx, ?_⟩
        simp only [Bool.and_eq_true, decide_eq_true_eq]
        refine ⟨?_, by omega⟩
        cases m with
        | zero =>
          unfold q_dp at q
          omega
        | succ m =>
          unfold q_dp at q
          split at q
          · assumption
          · omega
    · intro x hx hkx p' s1 b1
      have := q_enm hx
      exact ih e m (D + 1) p' x.1 x.2.2 (by omega) hkx (o1 x hx).2 (by omega) s1 b1 (by omega)
theorem q_td1 {b : Nat → UInt8} {d p : Nat} {k : UInt8} {v : List UInt8} (hk : k = 3 ∨ k = 4) (ho : q_ok d k v) (hd : d ≤ 20) (h : sb b p v) (hp : p + v.length ≤ 202000) (hv : v.length ≤ 2005) :
    tw_ST_deep1 b (iN (32 * p + k.toNat)) = decide (16 < q_dp 20 k v) := by
  have := q_td 16 d 20 1 p k v rfl hk ho hd h hp hv
  unfold tw_ST_deep1
  rw [show (1 : Int32) = iN 1 from rfl, this]
  exact decide_eq_decide.2 (by omega)
theorem r_dp_h {fu : Nat} {fd : Int32 → Int32 → Option Int32} {K : Int32 → Int32 → Option Int32} {st : Nat → Int32} {g : UInt8 → List UInt8 → Nat} {d : Nat} (hfu : 2500 ≤ fu) : ∀ (ps : List q_P) (e n c : Nat), sm st e (q_en ps ++ [0]) → q_op d ps → 0 < e →
    e + (q_en ps).length < 136400 → (q_en ps).length ≤ 2000 → ps.length < n → c < 1000 → (∀ x ∈ ps, g x.1 x.2.2 < 1000) →
    (∀ x ∈ ps, ∀ p, sm st p x.2.2 → p + x.2.2.length ≤ 136400 → fd (iN x.1.toNat) (iN p) = some (iN (g x.1 x.2.2))) →
    tw_MO_deepOf_h21 fu fd K st n (iN c) (iN (q_pt e ps)) = K (iN (max c (q_mx g ps))) (iN 0) := by
  intro ps
  induction ps with
  | nil =>
    intro e n c _ _ _ _ _ hn _ _ _
    obtain ⟨n, rfl⟩ : ∃ m, n = m + 1 := ⟨n - 1, by omega⟩
    unfold q_mx
    rw [Nat.max_zero]
    rfl
  | cons x r ih =>
    intro e n c h ho he hp hl hn hc hg hf
    obtain ⟨n, rfl⟩ : ∃ m, n = m + 1 := ⟨n - 1, by omega⟩
    obtain ⟨h1, h2⟩ := sm_en h
    obtain ⟨ha, hb⟩ := ho x List.mem_cons_self
    have e1 := q_e1l x
    have e2 := q_enl x r
    have s1 := sm_e1 h1
    rw [List.length_cons] at hn
    have gx := hg x List.mem_cons_self
    have IH := fun c hc => ih (e + (q_e1 x).length) n c h2 (fun y hy => ho y (List.mem_cons_of_mem _ hy)) (by omega) (by omega) (by omega) (by omega) hc (fun y hy => hg y (List.mem_cons_of_mem _ hy)) (fun y hy => hf y (List.mem_cons_of_mem _ hy))
    unfold tw_MO_deepOf_h21
    rw [q_ptc, r_vo h1 ha (by omega) (by omega), obs1]
    simp (disch := omega) only [i_0, i_136400, iN_a, iN_c, iN_le, iN_lt, iN_eq, iN_i]
    rw [if_neg (by omega), if_pos ⟨by omega, by omega⟩, s1.1, hf x List.mem_cons_self _ s1.2.2.2 (by omega), obs1]
    unfold tw_MO_deepOf_r45
    rw [r_no h ho (by omega) (by omega)]
    simp only [obs1]
    simp (disch := omega) only [iN_a, iN_c, iN_le, iN_lt, iN_eq, iN_i]
    unfold q_mx
    by_cases u : g x.1 x.2.2 ≤ c
    · rw [if_pos u, IH c hc]
      exact congrArg (fun z => K (iN z) (iN 0)) (by omega)
    · rw [if_neg u, IH _ gx]
      exact congrArg (fun z => K (iN z) (iN 0)) (by omega)
theorem r_dp {fu : Nat} {st : Nat → Int32} (hfu : 2500 ≤ fu) : ∀ (d n m p : Nat) (k : UInt8) (v : List UInt8), q_ok d k v → sm st p v → p + v.length ≤ 136400 → v.length ≤ 2005 → d < n → d ≤ m → d < 900 →
    tw_MO_deep fu st n (iN k.toNat) (iN p) = some (iN (q_dp m k v)) := by
  intro d
  induction d with
  | zero =>
    intro n m p k v ho h hp hv hn hm _
    obtain ⟨n, rfl⟩ : ∃ m, n = m + 1 := ⟨n - 1, by omega⟩
    have u := q_u8 k
    have k3 : k ≠ 3 := fun e => q_lfk ho (Or.inl e)
    have k4 : k ≠ 4 := fun e => q_lfk ho (Or.inr e)
    unfold tw_MO_deep tw_MO_deepOf
    simp (disch := omega) only [i_3, i_4, iN_a, iN_c, iN_le, iN_lt, iN_eq, iN_i, qk_3, qk_4]
    rw [if_neg k3, if_neg k4]
    cases m with
    | zero => rfl
    | succ m =>
      unfold q_dp
      rw [if_neg (by rintro (e | e); exact k3 e; exact k4 e)]
      rfl
  | succ d ih =>
    intro n m p k v ho h hp hv hn hm hd
    obtain ⟨n, rfl⟩ : ∃ m, n = m + 1 := ⟨n - 1, by omega⟩
    obtain ⟨m, rfl⟩ : ∃ j, m = j + 1 := ⟨m - 1, by omega⟩
    have u := q_u8 k
    unfold tw_MO_deep tw_MO_deepOf q_dp
    simp (disch := omega) only [i_3, i_4, iN_a, iN_c, iN_le, iN_lt, iN_eq, iN_i, qk_3, qk_4]
    by_cases hk : k = 3 ∨ k = 4
    · obtain ⟨e, ps, he, rfl, o1, _⟩ := q_okd ho hk
      obtain rfl : e = d := by omega
      rw [q_psb o1 (by omega), if_pos hk]
      rw [q_bxl] at *
      have pl := q_psl ps
      have key : ∀ K : Int32 → Int32 → Option Int32, tw_MO_deepOf_h21 fu (fun p0 p1 => tw_MO_deep fu st n p0 p1) K st fu 0 (iN (q_pt (p + 4) ps)) = K (iN (q_mx (q_dp m) ps)) (iN 0) := by
        intro K
        rw [i_0, r_dp_h (d := e) (g := q_dp m) hfu ps (p + 4) fu 0 (sm_ap.1 h).2 o1 (by omega) (by omega) (by omega) (by omega) (by omega), Nat.zero_max]
        · intro x hx
          have := q_enm hx
          have := q_dpl (m := m) (o1 x hx).2 (by omega)
          omega
        · intro x hx p' s1 b1
          have := q_enm hx
          exact ih n m p' x.1 x.2.2 (o1 x hx).2 s1 b1 (by omega) (by omega) (by omega) (by omega)
      rw [r_fo h o1 (by omega)]
      simp only [ob1, key]
      simp only [i_1, iN_a]
      rcases hk with rfl | rfl <;> rfl
    · rw [if_neg (fun e => hk (Or.inl e)), if_neg (fun e => hk (Or.inr e)), if_neg hk]
      rfl
theorem r_dp0 {fu : Nat} {st : Nat → Int32} {d p : Nat} {k : UInt8} {v : List UInt8} (hfu : 2500 ≤ fu) (ho : q_ok d k v) (h : sm st p v) (hp : p + v.length ≤ 136400) (hv : v.length ≤ 2005) (hd : d < 20) :
    tw_MO_deep0 fu st (iN k.toNat) (iN p) = some (iN (q_dp 20 k v)) := r_dp hfu d 20 20 p k v ho h hp hv hd (by omega) (by omega)
