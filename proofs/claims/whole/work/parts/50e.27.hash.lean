/-! the pure part: values that are the SAME have one hash -/
def q_hb (a : Int32) : List UInt8 → Int32
  | [] => a
  | y :: l => q_hb (a * 31 + y.toInt8.toInt32) l
def q_hp (f : UInt8 → List UInt8 → Int32) (nm : Bool) : Int32 → List q_P → Int32
  | a, [] => a
  | a, x :: r => q_hp f nm (if nm = true then (a * 31 + q_hb 3 x.2.1) * 31 + f x.1 x.2.2 else a * 31 + f x.1 x.2.2) r
def q_h1 (g : Bool → List q_P → Int32) (k : UInt8) (v : List UInt8) : Int32 :=
  if k = 2 then q_hb 3 (q_tt v) else if k = 3 then g true (q_ps v) else if k = 4 then g false (q_ps v)
  else if k = 8 then 8 + iN (v.headD 0).toNat else if k = 16 ∨ k = 18 then tw_ST_hashNumber (q_nu k v) else iN (q_cl k)
def q_hs : Nat → UInt8 → List UInt8 → Int32
  | 0, k, v => q_h1 (fun _ _ => 0) k v
  | d + 1, k, v => q_h1 (fun nm ps => q_hp (q_hs d) nm (if nm = true then 4 else 5) ps) k v
theorem c_hb_h {b : Nat → UInt8} {P : Nat} (hP : P ≤ 202000) : ∀ (l : List UInt8) (x n : Nat) (a : Int32), sb b x l → P = x + l.length → l.length < n → tw_ST_hashBytes_h9 b (iN P) n a (iN x) = q_hb a l := by
  intro l
  induction l with
  | nil =>
    intro x n a _ h2 hn
    obtain ⟨n, rfl⟩ : ∃ m, n = m + 1 := ⟨n - 1, by omega⟩
    simp only [List.length_nil, Nat.add_zero] at h2
    unfold tw_ST_hashBytes_h9
    rw [if_pos (by simp (disch := omega) only [iN_a, iN_c, iN_le, iN_lt, iN_eq, iN_i]; omega)]
    rfl
  | cons y l ih =>
    intro x n a h h2 hn
    obtain ⟨n, rfl⟩ : ∃ m, n = m + 1 := ⟨n - 1, by omega⟩
    rw [List.length_cons] at h2 hn
    unfold tw_ST_hashBytes_h9
    rw [if_neg (by simp (disch := omega) only [iN_a, iN_c, iN_le, iN_lt, iN_eq, iN_i]; omega), if_neg (by simp (disch := omega) only [i_202000, iN_a, iN_c, iN_le, iN_lt, iN_eq, iN_i]; omega), iN_c (by omega), show iN x + 1 = iN (x + 1) from iN_a x 1, ih (x + 1) n _ h.2 (by omega) (by omega)]
    show q_hb (a * 31 + (b x).toInt8.toInt32) l = q_hb (a * 31 + y.toInt8.toInt32) l
    rw [h.1]
theorem c_hb {b : Nat → UInt8} {p : Nat} {l : List UInt8} (h : sb b p l) (hp : p + l.length ≤ 202000) : tw_ST_hashBytes b (iN p) (iN (p + l.length)) = q_hb 3 l := by
  unfold tw_ST_hashBytes
  rw [if_neg (show ¬ iN p < 0 by simp (disch := omega) only [i_0, iN_a, iN_c, iN_le, iN_lt, iN_eq, iN_i]; omega)]
  exact c_hb_h hp l p _ 3 h rfl (by rw [iN_i (by omega), iN_i (by omega)]; omega)
theorem c_hp_h {fc : Int32 → Int32} {b : Nat → UInt8} {d : Nat} {p0 p1 : Int32} {f : UInt8 → List UInt8 → Int32} {nm : Bool} (hk : tw_ST_kindOf p0 = 3 ↔ nm = true) : ∀ (ps : List q_P) (e n i : Nat) (a : Int32), sb b e (q_en ps) → q_op d ps → e + (q_en ps).length < 202000 → ps.length < n → i + ps.length ≤ 1000 →
    (∀ x ∈ ps, ∀ p, sb b p x.2.2 → p + x.2.2.length ≤ 202000 → fc (iN (32 * p + x.1.toNat)) = f x.1 x.2.2) →
    tw_ST_hashParts_h25 fc b p0 p1 (iN (e + (q_en ps).length)) n (iN e) a (iN i) = q_hp f nm a ps := by
  intro ps
  induction ps with
  | nil =>
    intro e n i a _ _ hp hn hi _
    obtain ⟨n, rfl⟩ : ∃ m, n = m + 1 := ⟨n - 1, by omega⟩
    have z : (q_en ([] : List q_P)).length = 0 := rfl
    unfold tw_ST_hashParts_h25
    rw [z, Nat.add_zero, if_pos (Int32.le_refl (iN e))]
    split <;> rfl
  | cons x r ih =>
    intro e n i a h ho hp hn hi hf
    obtain ⟨n, rfl⟩ : ∃ m, n = m + 1 := ⟨n - 1, by omega⟩
    obtain ⟨h1, h2⟩ := sb_en h
    obtain ⟨ha, hb⟩ := ho x List.mem_cons_self
    have e1 := q_e1l x
    have e2 := q_enl x r
    have kx := (q_okn hb).1
    have s1 := sb_e1 h1
    rw [List.length_cons] at hn hi
    have IH := fun a => ih (e + (q_e1 x).length) n (i + 1) a h2 (fun y hy => ho y (List.mem_cons_of_mem _ hy)) (by omega) (by omega) (by omega) (fun y hy => hf y (List.mem_cons_of_mem _ hy))
    rw [show e + (q_e1 x).length + (q_en r).length = e + (q_en (x :: r)).length by omega] at IH
    have pl : tw_ST_placeOf (iN (32 * (e + x.2.1.length + 2) + x.1.toNat)) = iN (e + x.2.1.length + 2) := q_p (by omega) kx
    unfold tw_ST_hashParts_h25
    rw [if_neg (by simp (disch := omega) only [i_1000, iN_a, iN_c, iN_le, iN_lt, iN_eq, iN_i]; omega), if_neg (by simp (disch := omega) only [iN_a, iN_c, iN_le, iN_lt, iN_eq, iN_i]; omega), q_vo h1 kx ha (by omega), q_eo hb s1.2.2.2 (by omega), hf x List.mem_cons_self _ s1.2.2.2 (by omega), pl, show iN e + 1 = iN (e + 1) from iN_a e 1, iN_s1 (by omega), show e + x.2.1.length + 2 - 1 = e + 1 + x.2.1.length by omega, c_hb s1.2.1 (by omega), show iN i + 1 = iN (i + 1) from iN_a i 1,
      show e + x.2.1.length + 2 + x.2.2.length = e + (q_e1 x).length by omega, IH, IH]
    show _ = q_hp f nm (if nm = true then (a * 31 + q_hb 3 x.2.1) * 31 + f x.1 x.2.2 else a * 31 + f x.1 x.2.2) r
    by_cases c : nm = true
    · rw [if_pos (hk.2 c), if_pos c]
    · rw [if_neg (fun q => c (hk.1 q)), if_neg c]
theorem c_h1 {fp : Int32 → Int32} {b : Nat → UInt8} {g : Bool → List q_P → Int32} {d p D : Nat} {k : UInt8} {v : List UInt8} (ho : q_oz d k v) (h : sb b p v) (hp : p + v.length ≤ 202000) (hD : D ≤ 40)
    (hg : (k = 3 ∨ k = 4) → fp (iN (32 * p + k.toNat)) = g (k = 3) (q_ps v)) : tw_ST_hash fp b (iN (32 * p + k.toNat)) (iN D) = q_h1 g k v := by
  have kk := q_ozn ho
  have uk := q_u8 k
  have kd := q_k31 (p := p) (by omega) kk
  have pl : tw_ST_placeOf (iN (32 * p + k.toNat)) = iN p := q_p (by omega) kk
  unfold tw_ST_hash q_h1
  rw [kd, pl, q_co (by omega) kk]
  simp only [i_2, i_3, i_4, i_8, i_16, i_18]
  rw [qy_2, qy_3, qy_4, qy_8, qy_16, qy_18]
  have h40 : iN D ≤ 40 := by
    simp (disch := omega) only [i_40, iN_a, iN_c, iN_le, iN_lt, iN_eq, iN_i]
    exact hD
  rw [if_pos h40]
  by_cases k2 : k = 2
  · subst k2
    rw [if_pos rfl, if_pos rfl]
    rcases ho with ho | ⟨e, _⟩
    rotate_left
    · cases e
    have l1 := q_okl ho (by decide) (by decide)
    unfold q_lf at l1
    rcases l1 with ⟨e, _⟩ | ⟨e, _⟩ | ⟨e, _⟩ | ⟨e, _⟩ | ⟨_, t, rfl⟩
    any_goals cases e
    rw [q_txl] at hp
    have s1 := sb_ap.1 h
    rw [q_ttt, show tw_ST_endOf b (iN (32 * p + (2 : UInt8).toNat)) = iN (p + 4 + (t.length + 1)) from q_eo2 s1.1 (by omega) (by omega), iN_a, iN_s1 (by omega), show p + 4 + (t.length + 1) - 1 = p + 4 + t.length by omega]
    exact c_hb (sb_ap.1 s1.2).1 (by omega)
  rw [if_neg k2, if_neg k2]
  by_cases k3 : k = 3
  · rw [if_pos k3, if_pos k3, hg (Or.inl k3), decide_eq_true k3]
  rw [if_neg k3, if_neg k3]
  by_cases k4 : k = 4
  · rw [if_pos k4, if_pos k4, hg (Or.inr k4), decide_eq_false k3]
  rw [if_neg k4, if_neg k4]
  by_cases k8 : k = 8
  · subst k8
    rw [if_pos rfl, if_pos rfl]
    rcases ho with ho | ⟨e, _⟩
    rotate_left
    · cases e
    have l1 := q_okl ho (by decide) (by decide)
    unfold q_lf at l1
    rcases l1 with ⟨e, _⟩ | ⟨e, _⟩ | ⟨_, hv⟩ | ⟨e, _⟩ | ⟨e, _⟩
    any_goals cases e
    rcases hv with rfl | rfl
    · rw [q_at (by simp at hp; omega), h.1]
      rfl
    · rw [q_at (by simp at hp; omega), h.1]
      rfl
  rw [if_neg k8, if_neg k8]
  by_cases kn : k = 16 ∨ k = 18
  · rw [if_pos kn]
    have n1 : tw_ST_number b (iN (32 * p + k.toNat)) = q_nu k v := by
      rcases ho with ho | ⟨e, _⟩
      rotate_left
      · rw [e] at kn
        exact absurd kn (by decide)
      have l1 := q_okl ho k3 k4
      unfold q_lf at l1
      rcases l1 with ⟨rfl, hv⟩ | ⟨rfl, hv⟩ | ⟨rfl, _⟩ | ⟨rfl, _⟩ | ⟨rfl, _⟩
      · exact q_n16 hv h (by omega)
      · exact q_n18 hv h (by omega)
      · exact absurd rfl k8
      · exact absurd kn (by decide)
      · exact absurd rfl k2
    rw [n1]
    rcases kn with e | e
    · rw [if_pos e]
    · rw [if_pos e]
      split <;> rfl
  · rw [if_neg kn, if_neg (fun q => kn (Or.inl q)), if_neg (fun q => kn (Or.inr q))]
theorem c_hs {b : Nat → UInt8} : ∀ (d n m D p : Nat) (k : UInt8) (v : List UInt8), q_oz d k v → sb b p v → p + v.length ≤ 202000 → v.length ≤ 2005 → d ≤ n → d ≤ m → D + d ≤ 40 → tw_ST_hsh n b (iN (32 * p + k.toNat)) (iN D) = q_hs m k v := by
  intro d
  induction d with
  | zero =>
    intro n m D p k v ho h hp _ _ _ hD
    have nb : ¬ (k = 3 ∨ k = 4) := by
      intro e
      rcases ho with ho | ⟨e2, _⟩
      · exact q_lfk ho e
      · rw [e2] at e
        exact absurd e (by decide)
    cases n with
    | zero =>
      cases m with
      | zero => exact c_h1 ho h hp (by omega) (fun e => absurd e nb)
      | succ m => exact c_h1 ho h hp (by omega) (fun e => absurd e nb)
    | succ n =>
      cases m with
      | zero => exact c_h1 ho h hp (by omega) (fun e => absurd e nb)
      | succ m => exact c_h1 ho h hp (by omega) (fun e => absurd e nb)
  | succ d ih =>
    intro n m D p k v ho h hp hv hn hm hD
    obtain ⟨n, rfl⟩ : ∃ m, n = m + 1 := ⟨n - 1, by omega⟩
    obtain ⟨m, rfl⟩ : ∃ j, m = j + 1 := ⟨m - 1, by omega⟩
    refine c_h1 ho h hp (by omega) (fun kb => ?_)
    rcases ho with ho | ⟨e, _⟩
    rotate_left
    · rw [e] at kb
      exact absurd kb (by decide)
    obtain ⟨e1, ps, he, rfl, o1, _⟩ := q_okd ho kb
    obtain rfl : e1 = d := by omega
    rw [q_psb o1 (by omega)]
    rw [q_bxl] at hp hv
    have kk := (q_okn ho).1
    have pl := q_psl ps
    have kd := q_k31 (p := p) (by omega) kk
    have hk : tw_ST_kindOf (iN (32 * p + k.toNat)) = 3 ↔ decide (k = 3) = true := by
      rw [kd]
      simp (disch := omega) only [i_3, iN_a, iN_c, iN_le, iN_lt, iN_eq, iN_i, qk_3, decide_eq_true_eq]
    have key := fun N (hN : 1000 < N) => c_hp_h (fc := fun x => tw_ST_hsh n b x (iN D + 1)) (d := e1) (p1 := iN D) (f := q_hs m) hk ps (p + 4) N 0 (iN (q_cl k)) (sb_bx h).2.1 o1 (by omega) (by omega) (by omega) (by
      intro x hx p' u1 u2
      have := q_enm hx
      rw [show iN D + 1 = iN (D + 1) from iN_a D 1]
      exact ih n m (D + 1) p' x.1 x.2.2 (Or.inl (o1 x hx).2) u1 u2 (by omega) (by omega) (by omega) (by omega))
    show tw_ST_hashParts _ b _ (iN D) = _
    unfold tw_ST_hashParts
    rw [q_eo4 (sb_bx h).1 (by omega) (by omega) kb, q_co (by omega) kk]
    unfold tw_ST_placeOf
    simp (disch := omega) only [i_0, i_1, i_4, i_5, i_31, i_1000, q_p, iN_a, iN_c, iN_le, iN_lt, iN_eq, iN_i, iN_s] at key ⊢
    rw [show p + ((q_en ps).length + 5) - 1 = p + 4 + (q_en ps).length by omega, key _ (by omega)]
    rcases kb with rfl | rfl
    · rfl
    · rfl
theorem c_hs0 {b : Nat → UInt8} {d p : Nat} {k : UInt8} {v : List UInt8} (ho : q_oz d k v) (hd : d ≤ 20) (h : sb b p v) (hp : p + v.length ≤ 202000) (hv : v.length ≤ 2005) : tw_ST_hsh0 b (iN (32 * p + k.toNat)) = q_hs 20 k v :=
  c_hs d 41 20 0 p k v ho h hp hv (by omega) (by omega) (by omega)
theorem q_hpe {f : UInt8 → List UInt8 → Int32} {c : UInt8 → List UInt8 → UInt8 → List UInt8 → Int32} {nm : Bool} : ∀ (ps qs : List q_P) (a : Int32), (∀ x ∈ ps, ∀ y ∈ qs, c x.1 x.2.2 y.1 y.2.2 = 0 → f x.1 x.2.2 = f y.1 y.2.2) → q_ol c nm ps qs = 0 → q_hp f nm a ps = q_hp f nm a qs := by
  intro ps
  induction ps with
  | nil =>
    intro qs a _ h
    cases qs with
    | nil => rfl
    | cons y qs => exact absurd h q_m10
  | cons x ps ih =>
    intro qs a hf h
    cases qs with
    | nil => exact absurd h q_10
    | cons y qs =>
      rw [q_olc] at h
      by_cases u1 : q_cl x.1 = q_cl y.1
      · rw [if_pos u1] at h
        by_cases u2 : nm = true ∧ q_ob x.2.1 y.2.1 ≠ 0
        · rw [if_pos u2] at h
          exact absurd h u2.2
        · rw [if_neg u2] at h
          by_cases u3 : c x.1 x.2.2 y.1 y.2.2 = 0
          · rw [if_pos u3] at h
            have e1 := hf x List.mem_cons_self y List.mem_cons_self u3
            show q_hp f nm (if nm = true then (a * 31 + q_hb 3 x.2.1) * 31 + f x.1 x.2.2 else a * 31 + f x.1 x.2.2) ps = q_hp f nm (if nm = true then (a * 31 + q_hb 3 y.2.1) * 31 + f y.1 y.2.2 else a * 31 + f y.1 y.2.2) qs
            have e2 : (if nm = true then (a * 31 + q_hb 3 x.2.1) * 31 + f x.1 x.2.2 else a * 31 + f x.1 x.2.2) = (if nm = true then (a * 31 + q_hb 3 y.2.1) * 31 + f y.1 y.2.2 else a * 31 + f y.1 y.2.2) := by
              rw [e1]
              by_cases n : nm = true
              · have : x.2.1 = y.2.1 := q_ob0.1 (Classical.byContradiction (fun q => u2 ⟨n, q⟩))
                rw [this]
              · rw [if_neg n, if_neg n]
            rw [e2]
            exact ih qs _ (fun z hz w hw => hf z (List.mem_cons_of_mem _ hz) w (List.mem_cons_of_mem _ hw)) h
          · rw [if_neg u3] at h
            exact absurd h u3
      · rw [if_neg u1] at h
        split at h
        · exact absurd h q_10
        · exact absurd h q_m10
theorem q_lg0 {x y : Int64} (h : lg_cmp x y = 0) : x = y := by
  unfold lg_cmp at h
  split at h
  · exact absurd h q_10
  · split at h
    · assumption
    · exact absurd h q_m10
theorem q_hse : ∀ (d n m : Nat) (k l : UInt8) (v w : List UInt8), q_oz d k v → q_oz d l w → v.length < 4294967296 → w.length < 4294967296 → d ≤ n → d ≤ m → q_ov n k v l w = 0 → q_hs m k v = q_hs m l w := by
  have base : ∀ (g : Bool → List q_P → List q_P → Int32) (h : Bool → List q_P → Int32) (d : Nat) (k l : UInt8) (v w : List UInt8), q_oz d k v → q_oz d l w → (∀ nm, ((k = 3 ∧ l = 3 ∧ nm = true) ∨ (k = 4 ∧ l = 4 ∧ nm = false)) → g nm (q_ps v) (q_ps w) = 0 → h nm (q_ps v) = h nm (q_ps w)) → q_o1 g k v l w = 0 → q_h1 h k v = q_h1 h l w := by
    intro g h d k l v w ho ho' hg e
    unfold q_o1 at e
    by_cases u1 : q_cl k = q_cl l
    rotate_left
    · rw [if_neg u1] at e
      split at e
      · exact absurd e q_10
      · exact absurd e q_m10
    rw [if_pos u1] at e
    unfold q_h1
    by_cases n2 : q_cl k = 2
    · rw [if_pos (Or.inl n2)] at e
      have e := q_lg0 e
      have kn := q_cl2.1 n2
      have ln := q_cl2.1 (u1 ▸ n2)
      rw [e]
      rcases kn with rfl | rfl <;> rcases ln with rfl | rfl <;> rfl
    by_cases n6 : q_cl k = 6
    · rw [if_pos (Or.inr n6)] at e
      have e := q_lg0 e
      obtain rfl := q_cl6.1 n6
      obtain rfl := q_cl6.1 (u1 ▸ n6)
      have tv : ∀ v, q_oz d 8 v → v = [0] ∨ v = [1] := by
        intro v ho
        rcases ho with ho | ⟨e, _⟩
        rotate_left
        · cases e
        have l1 := q_okl ho (by decide) (by decide)
        unfold q_lf at l1
        rcases l1 with ⟨e, _⟩ | ⟨e, _⟩ | ⟨_, hv⟩ | ⟨e, _⟩ | ⟨e, _⟩
        any_goals cases e
        exact hv
      rcases tv v ho with rfl | rfl <;> rcases tv w ho' with rfl | rfl
      · rfl
      · exact absurd e (by decide)
      · exact absurd e (by decide)
      · rfl
    rw [if_neg (by omega)] at e
    by_cases n3 : q_cl k = 3
    · rw [if_pos n3] at e
      obtain rfl := q_cl3.1 n3
      obtain rfl := q_cl3.1 (u1 ▸ n3)
      rw [if_pos rfl, if_pos rfl, q_ob0.1 e]
    rw [if_neg n3] at e
    by_cases n4 : q_cl k = 4
    · rw [if_pos n4] at e
      obtain rfl := q_cl4.1 n4
      obtain rfl := q_cl4.1 (u1 ▸ n4)
      exact hg true (Or.inl ⟨rfl, rfl, rfl⟩) e
    rw [if_neg n4] at e
    by_cases n5 : q_cl k = 5
    · rw [if_pos n5] at e
      obtain rfl := q_cl5.1 n5
      obtain rfl := q_cl5.1 (u1 ▸ n5)
      exact hg false (Or.inr ⟨rfl, rfl, rfl⟩) e
    have nk : ∀ k : UInt8, q_cl k ≠ 2 → q_cl k ≠ 6 → q_cl k ≠ 3 → q_cl k ≠ 4 → q_cl k ≠ 5 → ¬ k = 2 ∧ ¬ k = 3 ∧ ¬ k = 4 ∧ ¬ k = 8 ∧ ¬ (k = 16 ∨ k = 18) := fun k a c d e f => ⟨fun q => d (q_cl3.2 q), fun q => e (q_cl4.2 q), fun q => f (q_cl5.2 q), fun q => c (q_cl6.2 q), fun q => a (q_cl2.2 q)⟩
    obtain ⟨a1, a2, a3, a4, a5⟩ := nk k n2 n6 n3 n4 n5
    obtain ⟨b1, b2, b3, b4, b5⟩ := nk l (u1 ▸ n2) (u1 ▸ n6) (u1 ▸ n3) (u1 ▸ n4) (u1 ▸ n5)
    rw [if_neg a1, if_neg a2, if_neg a3, if_neg a4, if_neg a5, if_neg b1, if_neg b2, if_neg b3, if_neg b4, if_neg b5, u1]
  intro d
  induction d with
  | zero =>
    intro n m k l v w ho ho' _ _ _ _ e
    have nb : ∀ nm : Bool, ¬ ((k = 3 ∧ l = 3 ∧ nm = true) ∨ (k = 4 ∧ l = 4 ∧ nm = false)) := by
      intro nm e
      rcases ho with ho | ⟨e2, _⟩
      · exact q_lfk ho (by rcases e with e | e; exact Or.inl e.1; exact Or.inr e.1)
      · rcases e with e | e
        · rw [e2] at e
          exact absurd e.1 (by decide)
        · rw [e2] at e
          exact absurd e.1 (by decide)
    cases n with
    | zero =>
      cases m with
      | zero => exact base _ _ 0 k l v w ho ho' (fun nm q => absurd q (nb nm)) e
      | succ m => exact base _ _ 0 k l v w ho ho' (fun nm q => absurd q (nb nm)) e
    | succ n =>
      cases m with
      | zero => exact base _ _ 0 k l v w ho ho' (fun nm q => absurd q (nb nm)) e
      | succ m => exact base _ _ 0 k l v w ho ho' (fun nm q => absurd q (nb nm)) e
  | succ d ih =>
    intro n m k l v w ho ho' hv hw hn hm e
    obtain ⟨n, rfl⟩ : ∃ m, n = m + 1 := ⟨n - 1, by omega⟩
    obtain ⟨m, rfl⟩ : ∃ j, m = j + 1 := ⟨m - 1, by omega⟩
    refine base _ _ (d + 1) k l v w ho ho' ?_ e
    intro nm hk e
    have kb : k = 3 ∨ k = 4 := by rcases hk with e | e; exact Or.inl e.1; exact Or.inr e.1
    have lb : l = 3 ∨ l = 4 := by rcases hk with e | e; exact Or.inl e.2.1; exact Or.inr e.2.1
    rcases ho with ho | ⟨e2, _⟩
    rotate_left
    · rw [e2] at kb
      exact absurd kb (by decide)
    rcases ho' with ho' | ⟨e2, _⟩
    rotate_left
    · rw [e2] at lb
      exact absurd lb (by decide)
    obtain ⟨e1, ps, he, rfl, o1, _⟩ := q_okd ho kb
    obtain ⟨e2, qs, he2, rfl, o2, _⟩ := q_okd ho' lb
    obtain rfl : e1 = d := by omega
    obtain rfl : e2 = e1 := by omega
    rw [q_psb o1 hv, q_psb o2 hw] at e ⊢
    rw [q_bxl] at hv hw
    refine q_hpe ps qs _ ?_ e
    intro x hx y hy q
    have := q_enm hx
    have := q_enm hy
    exact ih n m x.1 y.1 x.2.2 y.2.2 (Or.inl (o1 x hx).2) (Or.inl (o2 y hy).2) (by omega) (by omega) (by omega) (by omega) q
