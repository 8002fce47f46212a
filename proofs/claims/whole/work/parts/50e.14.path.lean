/-! the pure part: paths -/
def q_gp : Bool → List UInt8 → Bool
  | bg, [] => !bg
  | bg, y :: r => if y = 0 then false else if y = 46 then (if bg = true then false else q_gp true r) else if bg = true ∧ y = 36 then false else q_gp false r
def q_dc : List UInt8 → Nat
  | [] => 0
  | y :: r => if y = 46 then q_dc r + 1 else q_dc r
def q_sl : List UInt8 → List UInt8 → List (List UInt8)
  | cur, [] => [cur]
  | cur, y :: r => if y = 46 then cur :: q_sl [] r else q_sl (cur ++ [y]) r
def q_pj : List (List UInt8) → List UInt8
  | [] => []
  | [x] => x
  | x :: y :: r => x ++ 46 :: q_pj (y :: r)
/-- the steps of a path; none when the bytes are no path -/
def q_po (t : List UInt8) : Option (List (List UInt8)) := if q_gp true t = true ∧ q_dc t < 8 then some (q_sl [] t) else none
def q_gs (x : List UInt8) : Prop := x ≠ [] ∧ (0 : UInt8) ∉ x ∧ (46 : UInt8) ∉ x ∧ x.headD 0 ≠ 36
theorem q_sll : ∀ (l cur : List UInt8), (q_sl cur l).length = q_dc l + 1 := by
  intro l
  induction l with
  | nil => exact fun _ => rfl
  | cons y r ih =>
    intro cur
    unfold q_sl q_dc
    split
    · rw [List.length_cons, ih]
    · exact ih _
theorem q_slj : ∀ (l cur : List UInt8), q_pj (q_sl cur l) = cur ++ l := by
  intro l
  induction l with
  | nil =>
    intro cur
    rw [List.append_nil]
    rfl
  | cons y r ih =>
    intro cur
    unfold q_sl
    split
    · next e =>
      have ne : q_sl [] r ≠ [] := by
        intro z
        have := q_sll r []
        rw [z] at this
        cases this
      obtain ⟨a, c, z⟩ := List.exists_cons_of_ne_nil ne
      have := ih []
      rw [z] at this ⊢
      show cur ++ 46 :: q_pj (a :: c) = _
      rw [this, e]
      rfl
    · rw [ih, List.append_assoc]
      rfl
theorem q_slg : ∀ (l cur : List UInt8) (bg : Bool), q_gp bg l = true → (bg = true ↔ cur = []) → (0 : UInt8) ∉ cur → (46 : UInt8) ∉ cur → (cur ≠ [] → cur.headD 0 ≠ 36) → ∀ x ∈ q_sl cur l, q_gs x := by
  intro l
  induction l with
  | nil =>
    intro cur bg h hb h0 h46 hd x hx
    unfold q_sl at hx
    rw [List.mem_singleton] at hx
    subst hx
    have : bg = false := by
      cases bg
      · rfl
      · cases h
    have ne : x ≠ [] := by
      intro z
      have := hb.2 z
      simp_all
    exact ⟨ne, h0, h46, hd ne⟩
  | cons y r ih =>
    intro cur bg h hb h0 h46 hd x hx
    unfold q_gp at h
    unfold q_sl at hx
    split at h
    · cases h
    · next y0 =>
      split at h
      · next y46 =>
        rw [if_pos y46] at hx
        split at h
        · cases h
        · next nb =>
          have ne : cur ≠ [] := fun z => nb (hb.2 z)
          rcases List.mem_cons.1 hx with rfl | hx
          · exact ⟨ne, h0, h46, hd ne⟩
          · exact ih [] true h (by simp) (by simp) (by simp) (fun z => absurd rfl z) x hx
      · next y46 =>
        rw [if_neg y46] at hx
        split at h
        · cases h
        · next nb =>
          refine ih (cur ++ [y]) false h (by simp) ?_ ?_ ?_ x hx
          · intro z
            rcases List.mem_append.1 z with z | z
            · exact h0 z
            · exact y0 (List.mem_singleton.1 z).symm
          · intro z
            rcases List.mem_append.1 z with z | z
            · exact h46 z
            · exact y46 (List.mem_singleton.1 z).symm
          · intro _
            cases cur with
            | nil =>
              show y ≠ 36
              intro z
              exact nb ⟨hb.2 rfl, z⟩
            | cons a c => exact hd (by simp)
theorem q_pok {t : List UInt8} {xs : List (List UInt8)} (h : q_po t = some xs) : t = q_pj xs ∧ xs ≠ [] ∧ xs.length ≤ 8 ∧ ∀ x ∈ xs, q_gs x := by
  unfold q_po at h
  split at h
  · next c =>
    injection h with h
    subst h
    refine ⟨(q_slj t []).symm, ?_, ?_, q_slg t [] true c.1 (by simp) (by simp) (by simp) (fun z => absurd rfl z)⟩
    · intro z
      have := q_sll t []
      rw [z] at this
      cases this
    · rw [q_sll]
      omega
  · cases h
/-- the class: the steps that were read -/
def q_pa (b : Nat → UInt8) (pst pen pix : Nat → Int32) (xs : List (List UInt8)) : Prop :=
  ∀ i x, xs[i]? = some x → ∃ a, pst i = iN a ∧ pen i = iN (a + x.length) ∧ sb b a x ∧ a + x.length < 2000 ∧ pix i = (match q_ix x with | none => -1 | some j => iN j)
theorem q_pau {b : Nat → UInt8} {pst pen pix : Nat → Int32} {xs : List (List UInt8)} {x : List UInt8} {a : Nat} {j : Int32} (h : q_pa b pst pen pix xs) (hx : sb b a x) (ha : a + x.length < 2000) (hj : j = (match q_ix x with | none => -1 | some j => iN j)) :
    q_pa b (upd pst xs.length (iN a)) (upd pen xs.length (iN (a + x.length))) (upd pix xs.length j) (xs ++ [x]) := by
  intro i y hi
  by_cases e : i = xs.length
  · subst e
    rw [List.getElem?_append_right (Nat.le_refl _), Nat.sub_self] at hi
    injection hi with hi
    subst hi
    refine ⟨a, ?_, ?_, hx, ha, ?_⟩
    · show (if xs.length = xs.length then _ else _) = _
      rw [if_pos rfl]
    · show (if xs.length = xs.length then _ else _) = _
      rw [if_pos rfl]
    · show (if xs.length = xs.length then _ else _) = _
      rw [if_pos rfl, hj]
  · have il : i < (xs ++ [x]).length := (List.getElem?_eq_some_iff.1 hi).1
    rw [List.length_append] at il
    have il2 : i < xs.length := by
      simp at il
      omega
    rw [List.getElem?_append_left il2] at hi
    obtain ⟨c, h1, h2, h3, h4, h5⟩ := h i y hi
    refine ⟨c, ?_, ?_, h3, h4, ?_⟩
    · show (if i = xs.length then _ else _) = _
      rw [if_neg e, h1]
    · show (if i = xs.length then _ else _) = _
      rw [if_neg e, h2]
    · show (if i = xs.length then _ else _) = _
      rw [if_neg e, h5]
def q_rp (b : Nat → UInt8) (c : Prop) (xs : List (List UInt8)) (fx : Bool) (R : Bool × Int32 × Bool × (Nat → Int32) × (Nat → Int32) × (Nat → Int32)) : Prop :=
  (c → ∃ pst pen pix, R = (true, iN xs.length, fx, pst, pen, pix) ∧ q_pa b pst pen pix xs) ∧ (¬ c → R.1 = false)
theorem q_rpf {b : Nat → UInt8} {c : Prop} {xs : List (List UInt8)} {fx : Bool} {R : Bool × Int32 × Bool × (Nat → Int32) × (Nat → Int32) × (Nat → Int32)} (h : ¬ c) (e : R.1 = false) : q_rp b c xs fx R := ⟨fun q => absurd q h, fun _ => e⟩
theorem q_rs {A : Type} {b : Nat → UInt8} {x m : Nat} {cur : List UInt8} {F R : A} (h : sb b x cur) (hx : x + cur.length < 2000) (hd : cur ≠ [] → cur.headD 0 ≠ 36) (hm : m ≤ 8) :
    (if iN (x + cur.length) = iN x then F else if tw_ST_at b (iN x) = 36 then F else if iN m < 8 then R else F) = if cur = [] then F else if m < 8 then R else F := by
  simp (disch := omega) only [i_8, iN_a, iN_c, iN_le, iN_lt, iN_eq, iN_i]
  cases cur with
  | nil => rw [if_pos (show x + ([] : List UInt8).length = x from rfl), if_pos rfl]
  | cons y r =>
    have := hd (by simp)
    rw [List.headD_cons] at this
    rw [List.length_cons] at *
    rw [if_neg (by omega), q_at (by omega), h.1, i_36, qy_36, if_neg this, if_neg (show ¬ (y :: r) = [] from fun q => by cases q)]
/-- a step that begins with $ is no step -/
theorem q_rd37 {b : Nat → UInt8} {P : Nat} (hP : P < 2000) : ∀ (l : List UInt8) (x z n c : Nat) (fx : Bool) (pst pen pix : Nat → Int32), sb b z l → P = z + l.length → x < z → b x = 36 → c ≤ 8 → l.length + 2 ≤ n →
    (tw_PA_read_h15 b (iN P) n (iN x) (iN z) (iN c) fx pst pen pix).1 = false := by
  intro l
  induction l with
  | nil =>
    intro x z n c fx pst pen pix h hP2 hx h36 hc hn
    obtain ⟨n, rfl⟩ : ∃ m, n = m + 1 := ⟨n - 1, by omega⟩
    simp only [List.length_nil, Nat.add_zero] at hP2
    unfold tw_PA_read_h15
    rw [if_neg (by simp (disch := omega) only [iN_a, iN_c, iN_le, iN_lt, iN_eq, iN_i]; omega), if_pos (by simp (disch := omega) only [iN_a, iN_c, iN_le, iN_lt, iN_eq, iN_i]; omega), if_neg (by simp (disch := omega) only [iN_a, iN_c, iN_le, iN_lt, iN_eq, iN_i]; omega), q_at (by omega), h36, if_pos (show iN (36 : UInt8).toNat = 36 from rfl)]
  | cons y r ih =>
    intro x z n c fx pst pen pix h hP2 hx h36 hc hn
    obtain ⟨n, rfl⟩ : ∃ m, n = m + 1 := ⟨n - 1, by omega⟩
    rw [List.length_cons] at *
    have uy := q_u8 y
    unfold tw_PA_read_h15
    rw [if_neg (by simp (disch := omega) only [iN_a, iN_c, iN_le, iN_lt, iN_eq, iN_i]; omega), if_neg (by simp (disch := omega) only [iN_a, iN_c, iN_le, iN_lt, iN_eq, iN_i]; omega), if_neg (show ¬ iN z = iN x by simp (disch := omega) only [iN_a, iN_c, iN_le, iN_lt, iN_eq, iN_i]; omega), q_at (p := x) (by omega), h36, if_pos (show iN (36 : UInt8).toNat = 36 from rfl), show iN z + 1 = iN (z + 1) from iN_a z 1]
    split
    · rfl
    · split
      · rfl
      · exact ih x (z + 1) n c fx pst pen pix h.2 (by omega) (by omega) h36 hc (by omega)
theorem q_rd36 {b : Nat → UInt8} {P : Nat} (r : List UInt8) (y : UInt8) (x n : Nat) (dn : List (List UInt8)) (fx : Bool) (pst pen pix : Nat → Int32) (hy : y = 36) (h : sb b x (y :: r)) (hP2 : P = x + (r.length + 1)) (hP : P < 2000) (hdn : dn.length ≤ 8) (hn : r.length + 2 ≤ n) :
    (tw_PA_read_h15 b (iN P) n (iN x) (iN (x + ([] : List UInt8).length) + 1) (iN dn.length) fx pst pen pix).1 = false := by
  rw [show iN (x + ([] : List UInt8).length) + 1 = iN (x + 1) from iN_a x 1]
  exact q_rd37 hP r x (x + 1) n dn.length fx pst pen pix h.2 (by omega) (by omega) (h.1.trans hy) hdn hn
theorem q_rd_h {b : Nat → UInt8} {P : Nat} {fx : Bool} (hP : P < 2000) : ∀ (l cur : List UInt8) (bg : Bool) (dn : List (List UInt8)) (x n : Nat) (pst pen pix : Nat → Int32), sb b x (cur ++ l) → P = x + cur.length + l.length → (bg = true ↔ cur = []) → (cur ≠ [] → cur.headD 0 ≠ 36) →
    dn.length ≤ 8 → l.length + 2 ≤ n → q_pa b pst pen pix dn →
    q_rp b (q_gp bg l = true ∧ dn.length + q_dc l < 8) (dn ++ q_sl cur l) fx (tw_PA_read_h15 b (iN P) n (iN x) (iN (x + cur.length)) (iN dn.length) fx pst pen pix) := by
  intro l
  induction l with
  | nil =>
    intro cur bg dn x n pst pen pix h hP2 hb hd hdn hn pa
    obtain ⟨n, rfl⟩ : ∃ m, n = m + 1 := ⟨n - 1, by omega⟩
    rw [List.append_nil] at h
    simp only [List.length_nil, Nat.add_zero] at hP2 hn
    obtain ⟨n, rfl⟩ : ∃ m, n = m + 1 := ⟨n - 1, by omega⟩
    have ixi := q_ixi h (by omega)
    unfold tw_PA_read_h15
    rw [if_neg (by simp (disch := omega) only [iN_a, iN_c, iN_le, iN_lt, iN_eq, iN_i]; omega), if_pos (by simp (disch := omega) only [iN_a, iN_c, iN_le, iN_lt, iN_eq, iN_i]; omega), ixi, q_rs h (by omega) hd hdn]
    by_cases c1 : cur = []
    · rw [if_pos c1]
      refine q_rpf ?_ rfl
      rw [hb.2 c1]
      exact fun q => by cases q.1
    · rw [if_neg c1]
      have bf : bg = false := by
        cases bg
        · rfl
        · exact absurd (hb.1 rfl) c1
      by_cases c2 : dn.length < 8
      · rw [if_pos c2]
        unfold tw_PA_read_h15
        simp (disch := omega) only [i_0, i_1, iN_a, iN_c, iN_le, iN_lt, iN_eq, iN_i]
        rw [if_pos (by omega), if_neg (by omega)]
        refine ⟨fun _ => ⟨_, _, _, ?_, q_pau pa h (by omega) rfl⟩, fun q => absurd ⟨by rw [bf]; rfl, c2⟩ q⟩
        rw [List.length_append]
        rfl
      · rw [if_neg c2]
        exact q_rpf (fun q => c2 q.2) rfl
  | cons y r ih =>
    intro cur bg dn x n pst pen pix h hP2 hb hd hdn hn pa
    obtain ⟨n, rfl⟩ : ∃ m, n = m + 1 := ⟨n - 1, by omega⟩
    rw [List.length_cons] at *
    obtain ⟨h1, h2⟩ := sb_ap.1 h
    have ixi := q_ixi h1 (by omega)
    have uy := q_u8 y
    unfold tw_PA_read_h15
    rw [if_neg (by simp (disch := omega) only [iN_a, iN_c, iN_le, iN_lt, iN_eq, iN_i]; omega), if_neg (by simp (disch := omega) only [iN_a, iN_c, iN_le, iN_lt, iN_eq, iN_i]; omega), q_at (p := x + cur.length) (by omega), h2.1, ixi, q_rs h1 (by omega) hd hdn, i_0, qy_0, i_46, qy_46]
    unfold q_gp q_dc q_sl
    by_cases y0 : y = 0
    · rw [if_pos y0, if_pos y0]
      exact q_rpf (fun q => by cases q.1) rfl
    rw [if_neg y0, if_neg y0]
    by_cases y46 : y = 46
    · rw [if_pos y46, if_pos y46, if_pos y46, if_pos y46]
      by_cases c1 : cur = []
      · rw [if_pos c1, if_pos (hb.2 c1)]
        exact q_rpf (fun q => by cases q.1) rfl
      · rw [if_neg c1, if_neg (fun q => c1 (hb.1 q))]
        by_cases c2 : dn.length < 8
        · rw [if_pos c2]
          have := ih [] true (dn ++ [cur]) (x + cur.length + 1) n (upd pst dn.length (iN x)) (upd pen dn.length (iN (x + cur.length))) (upd pix dn.length (match q_ix cur with | none => -1 | some j => iN j)) h2.2 (by simp; omega) (by simp) (fun q => absurd rfl q)
            (by rw [List.length_append]; simp; omega) (by omega) (q_pau pa h1 (by omega) rfl)
          rw [List.length_append, List.append_assoc] at this
          simp only [List.length_nil, List.length_cons, Nat.add_zero, Nat.zero_add] at this
          simp (disch := omega) only [i_1, iN_a, iN_c, iN_le, iN_lt, iN_eq, iN_i]
          rw [show dn.length + (q_dc r + 1) = dn.length + 1 + q_dc r by omega]
          exact this
        · rw [if_neg c2]
          exact q_rpf (fun q => c2 (by omega)) rfl
    · rw [if_neg y46, if_neg y46, if_neg y46, if_neg y46]
      by_cases c3 : bg = true ∧ y = 36
      · rw [if_pos c3]
        have ce := hb.1 c3.1
        subst ce
        refine q_rpf (fun q => by cases q.1) ?_
        exact q_rd36 r y x n dn fx pst pen pix c3.2 (by simpa using h2) (by simp at hP2; omega) hP hdn (by omega)
      · rw [if_neg c3]
        have := ih (cur ++ [y]) false dn x n pst pen pix (by rw [List.append_assoc]; exact h) (by rw [List.length_append]; simp; omega) (by simp) (fun _ => by
          cases cur with
          | nil => exact fun q => c3 ⟨hb.2 rfl, q⟩
          | cons a c => exact hd (by simp)) hdn (by omega) pa
        rw [List.length_append] at this
        simp only [List.length_cons, List.length_nil, Nat.zero_add] at this
        rw [show iN (x + cur.length) + 1 = iN (x + cur.length + 1) from iN_a _ 1, Nat.add_assoc]
        exact this
theorem q_rd {b : Nat → UInt8} {p : Nat} {t : List UInt8} {pcnt : Int32} {pfix : Bool} {pst pen pix : Nat → Int32} (h : sb b p t) (hp : p + t.length < 2000) :
    q_rp b (q_gp true t = true ∧ q_dc t < 8) (q_sl [] t) false (tw_PA_read b pcnt pfix pst pen pix (iN p) (iN (p + t.length))) := by
  have := q_rd_h (fx := false) hp t [] true [] p (rd_mu (iN (p + t.length)) (iN p) + 1) pst pen pix h (by simp) (by simp) (fun q => absurd rfl q) (by simp) ?_ (fun i x q => by cases i <;> cases q)
  · simp only [List.length_nil, Nat.add_zero, Nat.zero_add, List.nil_append] at this
    exact this
  · unfold rd_mu
    simp (disch := omega) only [iN_a, iN_c, iN_le, iN_lt, iN_eq, iN_i]
    rw [if_neg (by omega), if_pos ⟨by omega, by omega⟩]
    omega
/-- the reference: whether the bytes are a path -/
theorem r_ip_h {fu : Nat} {K : Int32 → Bool → Int32 → Option Bool} {st : Nat → Int32} {p N : Nat} (hK : ∀ a g c, K a g c = if b2i g = 0 then some false else if 9 ≤ a then some false else some true) (hp : 0 < p) (hN : p + N < 136400) :
    ∀ (l : List UInt8) (bg : Bool) (k n c : Nat), sm st (p + k) l → N = k + l.length → (k = 0 → bg = true) → (0 < k → (st (p + k - 1) = iN 46) = (bg = true)) → l.length + 2 ≤ n → c + q_dc l < 1000000 →
    tw_MO_isPath_h16 fu K st (iN p) (iN N) n (iN c) true (iN k) = some (q_gp bg l && decide (c + q_dc l < 9)) := by
  intro l
  induction l with
  | nil =>
    intro bg k n c h hk h0 h1 hn hc
    obtain ⟨n, rfl⟩ : ∃ m, n = m + 1 := ⟨n - 1, by omega⟩
    simp only [List.length_nil, Nat.add_zero] at hk hn
    obtain ⟨n, rfl⟩ : ∃ m, n = m + 1 := ⟨n - 1, by omega⟩
    subst hk
    have fin : ∀ g : Bool, tw_MO_isPath_h16 fu K st (iN p) (iN N) (n + 1) (iN c + 0) g (iN N + 1) = some (g && decide (c < 9)) := by
      intro g
      unfold tw_MO_isPath_h16
      simp (disch := omega) only [i_0, i_1, iN_a, iN_c, iN_le, iN_lt, iN_eq, iN_i, Nat.add_zero]
      rw [if_pos (by omega), hK]
      cases g with
      | false => rfl
      | true =>
        rw [if_neg (by decide)]
        simp (disch := omega) only [i_9, iN_a, iN_c, iN_le, iN_lt, iN_eq, iN_i]
        by_cases q : 9 ≤ c
        · rw [if_pos q, decide_eq_false (by omega)]
          rfl
        · rw [if_neg q, decide_eq_true (by omega)]
          rfl
    have r82 : ∀ (Q : Bool → Option Bool) (bg : Bool), tw_MO_isPath_r82 fu Q st (iN p) (iN N) (iN c) true (iN N) true bg = Q (!bg) := by
      intro Q bg
      unfold tw_MO_isPath_r82
      rw [if_pos (Int32.le_refl _)]
      cases bg <;> rfl
    unfold tw_MO_isPath_h16
    rw [if_neg (by simp (disch := omega) only [iN_a, iN_c, iN_le, iN_lt, iN_eq, iN_i]; omega), if_neg (by decide)]
    unfold tw_MO_isPath_r27
    rw [if_pos rfl]
    dsimp only
    have lf : ∀ bg : Bool, tw_MO_isPath_r82 fu (fun (y4 : Bool) => if iN N ≤ iN N then tw_MO_isPath_h16 fu K st (iN p) (iN N) (n + 1) (iN c + 0) y4 (iN N + 1) else if (b2i true) = 0 then tw_MO_isPath_h16 fu K st (iN p) (iN N) (n + 1) (iN c + 0) y4 (iN N + 1) else tw_MO_isPath_h16 fu K st (iN p) (iN N) (n + 1) (iN c + 1) y4 (iN N + 1)) st (iN p) (iN N) (iN c) true (iN N) true bg = some ((!bg) && decide (c + 0 < 9)) := by
      intro bg
      rw [r82, if_pos (Int32.le_refl _), fin]
      rfl
    show _ = some ((!bg) && decide (c + 0 < 9))
    by_cases k0 : N = 0
    · have := h0 k0
      subst this
      rw [if_pos (show iN N = 0 by rw [k0]; rfl)]
      exact lf true
    · rw [if_neg (show ¬ iN N = 0 by simp (disch := omega) only [i_0, iN_a, iN_c, iN_le, iN_lt, iN_eq, iN_i]; omega)]
      have h1 := h1 (by omega)
      rw [show iN p + iN N - 1 = iN (p + N - 1) by rw [iN_a]; exact iN_s1 (by omega)]
      rw [if_pos (by simp (disch := omega) only [i_0, i_136400, iN_a, iN_c, iN_le, iN_lt, iN_eq, iN_i]; omega), iN_c (by omega), i_46]
      cases bg with
      | true =>
        rw [if_pos (Eq.mpr h1 rfl)]
        exact lf true
      | false =>
        rw [if_neg (fun q => by cases Eq.mp h1 q)]
        exact lf false
  | cons y r ih =>
    intro bg k n c h hk h0 h1 hn hc
    obtain ⟨n, rfl⟩ : ∃ m, n = m + 1 := ⟨n - 1, by omega⟩
    rw [List.length_cons] at hk hn
    have uy := q_u8 y
    have hy : st (p + k) = iN y.toNat := h.1
    have hc2 : q_dc r ≤ q_dc (y :: r) := by
      conv => rhs; unfold q_dc
      split <;> omega
    have IH := fun c' (hc' : c' + q_dc r < 1000000) => ih (y = 46) (k + 1) n c' (by rw [← Nat.add_assoc]; exact h.2) (by omega) (by omega) (by
      intro _
      rw [show p + (k + 1) - 1 = p + k by omega, hy, q_yk y 46 (by omega)]
      simp) (by omega) hc'
    have fal : ∀ (m c' : Nat), 0 < m → tw_MO_isPath_h16 fu K st (iN p) (iN N) m (iN c') false (iN (k + 1)) = some false := by
      intro m c' hm
      obtain ⟨m, rfl⟩ : ∃ j, m = j + 1 := ⟨m - 1, by omega⟩
      unfold tw_MO_isPath_h16
      rw [hK, if_pos (show b2i false = 0 from rfl), if_pos (show b2i false = 0 from rfl)]
      split <;> rfl
    have R27 : ∀ Q : Bool → Option Bool, tw_MO_isPath_r27 fu Q st (iN p) (iN N) (iN c) true (iN k) = Q (decide (y = 46)) := by
      intro Q
      unfold tw_MO_isPath_r27
      simp (disch := omega) only [i_0, i_46, i_136400, iN_a, iN_c, iN_le, iN_lt, iN_eq, iN_i]
      rw [if_neg (by omega), if_pos ⟨by omega, by omega⟩, hy, qy_46]
      by_cases e : y = 46
      · rw [if_pos e, decide_eq_true e]
      · rw [if_neg e, decide_eq_false e]
    have R82 : ∀ (Q : Bool → Option Bool) (g bg : Bool), tw_MO_isPath_r82 fu Q st (iN p) (iN N) (iN c) true (iN k) g bg = Q (if y = 0 then false else if bg = true then (if g = true then false else decide (¬ y = 36)) else true) := by
      intro Q g bg
      unfold tw_MO_isPath_r82
      simp (disch := omega) only [i_0, i_36, i_136400, iN_a, iN_c, iN_le, iN_lt, iN_eq, iN_i]
      rw [if_neg (by omega), if_pos ⟨by omega, by omega⟩, hy, qy_0, qy_36]
      by_cases e : y = 0
      · rw [if_pos e, if_pos e]
      · rw [if_neg e, if_neg e]
        cases bg with
        | false => rfl
        | true =>
          cases g with
          | true => rfl
          | false =>
            by_cases e2 : y = 36
            · rw [if_neg (by decide), if_pos (show b2i false = iN 0 from rfl), if_pos e2]
              simp [e2]
            · rw [if_neg (by decide), if_pos (show b2i false = iN 0 from rfl), if_neg e2]
              simp [e2]
    have Q1 : ∀ bg : Bool, tw_MO_isPath_r82 fu (fun (y4 : Bool) => if iN N ≤ iN k then tw_MO_isPath_h16 fu K st (iN p) (iN N) n (iN c + 0) y4 (iN k + 1) else if (b2i (decide (y = 46))) = 0 then tw_MO_isPath_h16 fu K st (iN p) (iN N) n (iN c + 0) y4 (iN k + 1) else tw_MO_isPath_h16 fu K st (iN p) (iN N) n (iN c + 1) y4 (iN k + 1)) st (iN p) (iN N) (iN c) true (iN k) (decide (y = 46)) bg =
        some (q_gp bg (y :: r) && decide (c + q_dc (y :: r) < 9)) := by
      intro bg
      rw [R82]
      simp (disch := omega) only [i_0, i_1, iN_a, iN_c, iN_le, iN_lt, iN_eq, iN_i, Nat.add_zero]
      rw [if_neg (by omega)]
      unfold q_gp q_dc
      by_cases y0 : y = 0
      · have y46 : ¬ y = 46 := by
          rw [y0]
          decide
        rw [if_pos y0, if_pos y0, decide_eq_false y46, if_pos (show b2i false = iN 0 from rfl), fal n _ (by omega)]
        rfl
      rw [if_neg y0, if_neg y0]
      by_cases y46 : y = 46
      · rw [decide_eq_true y46, if_neg (by decide), if_pos y46, if_pos y46]
        cases bg with
        | true =>
          rw [if_pos rfl, if_pos rfl, if_pos rfl, fal n _ (by omega)]
          rfl
        | false =>
          rw [if_neg (by decide), if_neg (by decide)]
          have e : q_dc (y :: r) = q_dc r + 1 := by
            conv => lhs; unfold q_dc
            rw [if_pos y46]
          have := IH (c + 1) (by omega)
          rw [decide_eq_true y46] at this
          rw [this, show c + 1 + q_dc r = c + (q_dc r + 1) by omega]
      · rw [decide_eq_false y46, if_pos (show b2i false = iN 0 from rfl), if_neg y46, if_neg y46]
        have := IH c (by omega)
        rw [decide_eq_false y46] at this
        cases bg with
        | false =>
          rw [if_neg (by decide), if_neg (by simp), this]
        | true =>
          rw [if_pos rfl, if_neg (by decide)]
          by_cases y36 : y = 36
          · rw [if_pos ⟨rfl, y36⟩, decide_eq_false (by simp [y36]), fal n _ (by omega)]
            rfl
          · rw [if_neg (fun q => y36 q.2), decide_eq_true y36, this]
    unfold tw_MO_isPath_h16
    rw [if_neg (by simp (disch := omega) only [iN_a, iN_c, iN_le, iN_lt, iN_eq, iN_i]; omega), if_neg (by decide), R27]
    by_cases k0 : k = 0
    · have := h0 k0
      subst this
      subst k0
      rw [if_pos (show iN 0 = 0 from rfl)]
      exact Q1 true
    · rw [if_neg (by simp (disch := omega) only [i_0, iN_a, iN_c, iN_le, iN_lt, iN_eq, iN_i]; omega)]
      have h1 := h1 (by omega)
      rw [show iN p + iN k - 1 = iN (p + k - 1) by rw [iN_a]; exact iN_s1 (by omega)]
      rw [if_pos (by simp (disch := omega) only [i_0, i_136400, iN_a, iN_c, iN_le, iN_lt, iN_eq, iN_i]; omega), iN_c (by omega), i_46]
      cases bg with
      | true =>
        rw [if_pos (Eq.mpr h1 rfl)]
        exact Q1 true
      | false =>
        rw [if_neg (fun q => by cases Eq.mp h1 q)]
        exact Q1 false
theorem r_ip {fu : Nat} {st : Nat → Int32} {p : Nat} {t : List UInt8} (h : sm st p t) (hp : 0 < p) (hN : p + t.length < 136400) (hf : t.length + 2 ≤ fu) : tw_MO_isPath fu st (iN p) (iN t.length) = some (decide (q_gp true t = true ∧ q_dc t < 8)) := by
  have dl : q_dc t ≤ t.length := by
    clear h hp hN hf
    induction t with
    | nil => exact Nat.le_refl _
    | cons y r ih =>
      unfold q_dc
      rw [List.length_cons]
      split <;> omega
  unfold tw_MO_isPath tw_MO_isPath_r2
  by_cases e : t = []
  · subst e
    rw [if_pos (show iN ([] : List UInt8).length ≤ 0 from by decide)]
    obtain ⟨m, rfl⟩ : ∃ j, fu = j + 1 := ⟨fu - 1, by omega⟩
    unfold tw_MO_isPath_h16
    rfl
  · have : 0 < t.length := List.length_pos_iff.2 e
    have key := r_ip_h (fu := fu) (K := fun x3 x4 _ => if b2i x4 = 0 then some false else if 9 ≤ x3 then some false else some true) (fun _ _ _ => rfl) hp hN t true 0 fu 1 h (by omega) (fun _ => rfl) (by omega) hf (by omega)
    rw [if_neg (show ¬ iN t.length ≤ 0 by simp (disch := omega) only [i_0, iN_a, iN_c, iN_le, iN_lt, iN_eq, iN_i]; omega)]
    refine key.trans (congrArg some ?_)
    rw [Bool.eq_iff_iff]
    simp only [Bool.and_eq_true, decide_eq_true_eq]
    exact ⟨fun q => ⟨q.1, by omega⟩, fun q => ⟨q.1, by omega⟩⟩
