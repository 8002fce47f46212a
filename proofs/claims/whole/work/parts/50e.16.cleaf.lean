/-! the pure part: the class's leaves, each once -/
def q_kw (acc : List q_L) (z : q_L) : Bool := if z.2.1 = 0 then acc.any (fun w => w.2.1 == 0) else acc.any (fun w => w.2.1 != 0 && w.1 == z.1)
def q_ad (acc : List q_L) (z : q_L) : List q_L := if q_kw acc z = true then acc else acc ++ [z]
def q_dd (acc : List q_L) (L : List q_L) : List q_L := L.foldl q_ad acc
theorem q_dda (acc L M : List q_L) : q_dd acc (L ++ M) = q_dd (q_dd acc L) M := List.foldl_append
theorem q_adl (acc : List q_L) (z : q_L) : acc.length ≤ (q_ad acc z).length := by
  unfold q_ad
  split
  · exact Nat.le_refl _
  · rw [List.length_append]
    omega
theorem q_ddl (L : List q_L) : ∀ acc : List q_L, acc.length ≤ (q_dd acc L).length := by
  induction L with
  | nil => exact fun _ => Nat.le_refl _
  | cons z L ih =>
    intro acc
    exact Nat.le_trans (q_adl acc z) (ih (q_ad acc z))
/-- a leaf as the class tells it -/
def q_rl (p : Nat) (z : q_L) : Int32 := if z.2.1 = 0 then 0 else iN (32 * (p + z.1) + z.2.1.toNat)
def q_ls (p : Nat) (psr : Int32) (pn : Nat → Int32) (acc : List q_L) (S : Int32 × Bool × (Nat → Int32) × (Nat → Int32)) : Prop :=
  S.1 = iN acc.length ∧ S.2.1 = acc.any (fun w => w.2.1 == 0) ∧ (∀ i z, acc[i]? = some z → S.2.2.1 i = q_rl p z) ∧ (∀ o, o < 2000 → (S.2.2.2 o = psr ↔ acc.any (fun w => w.2.1 != 0 && w.1 == o) = true)) ∧ (∀ o, S.2.2.2 o = psr ∨ S.2.2.2 o = pn o)
theorem q_plu {p : Nat} {acc : List q_L} {plv : Nat → Int32} {z : q_L} {x : Int32} (h : ∀ i z, acc[i]? = some z → plv i = q_rl p z) (hx : x = q_rl p z) : ∀ i w, (acc ++ [z])[i]? = some w → upd plv acc.length x i = q_rl p w := by
  intro i w hi
  show (if i = acc.length then x else plv i) = _
  by_cases e : i = acc.length
  · rw [if_pos e]
    rw [e, List.getElem?_append_right (Nat.le_refl _), Nat.sub_self] at hi
    injection hi with hi
    rw [hx, ← hi]
  · rw [if_neg e]
    have il : i < (acc ++ [z]).length := (List.getElem?_eq_some_iff.1 hi).1
    rw [List.length_append] at il
    simp at il
    rw [List.getElem?_append_left (by omega)] at hi
    exact h i w hi
theorem q_mt {p : Nat} {psr : Int32} {pn : Nat → Int32} {acc : List q_L} {plc : Int32} {pms : Bool} {plv psn : Nat → Int32} {z : q_L} (h : q_ls p psr pn acc (plc, pms, plv, psn)) (hz : z = q_ms ∨ (z.2.1.toNat < 32 ∧ z.2.1 ≠ 0 ∧ z.1 < 2000)) (hp : p < 300000) (hl : (q_ad acc z).length ≤ 1001) :
    q_ls p psr pn (q_ad acc z) (tw_PA_meet psr (iN p) plc pms plv psn (q_rl p z)) := by
  obtain ⟨h1, h2, h3, h4, h5⟩ := h
  simp only at h1 h2 h3 h4 h5
  have al := q_adl acc z
  unfold tw_PA_meet
  rcases hz with rfl | ⟨z1, z2, z3⟩
  · rw [if_pos (show q_rl p q_ms = 0 from rfl)]
    unfold q_ad at hl ⊢
    have e : q_kw acc q_ms = acc.any (fun w => w.2.1 == 0) := rfl
    rw [e, ← h2] at hl ⊢
    cases pms with
    | true =>
      rw [if_pos (show true = true from rfl), if_neg (show ¬ b2i true = 0 by decide)]
      exact ⟨h1, h2, h3, h4, h5⟩
    | false =>
      rw [if_neg (by decide), List.length_append] at hl
      simp only [List.length_cons, List.length_nil] at hl
      rw [if_neg (show ¬ false = true by decide), if_pos (show b2i false = 0 from rfl), h1, if_neg (show ¬ 1001 ≤ iN acc.length by simp (disch := omega) only [i_1001, iN_a, iN_c, iN_le, iN_lt, iN_eq, iN_i]; omega), iN_c (by omega)]
      refine ⟨?_, ?_, q_plu h3 rfl, ?_, h5⟩
      · rw [List.length_append]
        exact iN_a _ 1
      · rw [List.any_append]
        simp [q_ms]
      · intro o ho
        rw [List.any_append, h4 o ho]
        simp [q_ms]
  · have zn : z.2.1.toNat ≠ 0 := fun q => z2 (by rw [q_u8e q]; rfl)
    have er : q_rl p z = iN (32 * (p + z.1) + z.2.1.toNat) := by
      unfold q_rl
      rw [if_neg z2]
    rw [er, if_neg (by simp (disch := omega) only [i_0, iN_a, iN_c, iN_le, iN_lt, iN_eq, iN_i]; omega)]
    unfold tw_ST_placeOf
    simp (disch := omega) only [i_5, i_31, q_p]
    rw [iN_s (by omega), show p + z.1 - p = z.1 by omega, if_neg (by simp (disch := omega) only [i_0, iN_a, iN_c, iN_le, iN_lt, iN_eq, iN_i]; omega), if_neg (by simp (disch := omega) only [i_2000, iN_a, iN_c, iN_le, iN_lt, iN_eq, iN_i]; omega), iN_c (by omega)]
    have e : q_kw acc z = acc.any (fun w => w.2.1 != 0 && w.1 == z.1) := by
      unfold q_kw
      rw [if_neg z2]
    unfold q_ad at hl ⊢
    rw [e] at hl ⊢
    by_cases c : psn z.1 = psr
    · rw [if_pos c, if_pos ((h4 z.1 z3).1 c)]
      have h6 : ∀ o, upd psn z.1 psr o = psr ∨ upd psn z.1 psr o = pn o := by
        intro o
        show (if o = z.1 then psr else psn o) = psr ∨ (if o = z.1 then psr else psn o) = pn o
        split
        · exact Or.inl rfl
        · exact h5 o
      refine ⟨h1, h2, h3, ?_, h6⟩
      intro o ho
      show (if o = z.1 then psr else psn o) = psr ↔ _
      by_cases e2 : o = z.1
      · rw [if_pos e2, e2]
        exact ⟨fun _ => (h4 z.1 z3).1 c, fun _ => rfl⟩
      · rw [if_neg e2]
        exact h4 o ho
    · have c2 : ¬ acc.any (fun w => w.2.1 != 0 && w.1 == z.1) = true := fun q => c ((h4 z.1 z3).2 q)
      rw [if_neg c2, List.length_append] at hl
      simp only [List.length_cons, List.length_nil] at hl
      rw [if_neg c, if_neg c2, h1, if_neg (by simp (disch := omega) only [i_1001, iN_a, iN_c, iN_le, iN_lt, iN_eq, iN_i]; omega), iN_c (by omega)]
      have h6 : ∀ o, upd psn z.1 psr o = psr ∨ upd psn z.1 psr o = pn o := by
        intro o
        show (if o = z.1 then psr else psn o) = psr ∨ (if o = z.1 then psr else psn o) = pn o
        split
        · exact Or.inl rfl
        · exact h5 o
      refine ⟨?_, ?_, q_plu h3 er.symm, ?_, h6⟩
      · rw [List.length_append]
        exact iN_a _ 1
      · rw [List.any_append, h2]
        simp [z2]
      · intro o ho
        show (if o = z.1 then psr else psn o) = psr ↔ _
        rw [List.any_append]
        by_cases e2 : o = z.1
        · rw [if_pos e2, e2]
          simp [z2]
        · rw [if_neg e2, h4 o ho]
          have : ¬ z.1 = o := fun q => e2 q.symm
          simp [this]
theorem q_tp4 {T1 T2 T3 T4 Z : Type} (q : T1 × T2 × T3 × T4) (f : T1 → T2 → T3 → T4 → Z) : tp4 q f = f q.1 q.2.1 q.2.2.1 q.2.2.2 := rfl
theorem q_mi_h {b : Nat → UInt8} {p d : Nat} {psr : Int32} {pn : Nat → Int32} (hp : p < 190000) : ∀ (ps : List q_P) (o n i : Nat) (acc : List q_L) (plc : Int32) (pms : Bool) (plv psn : Nat → Int32), sb b (p + o) (q_en ps) → q_op d ps → o + (q_en ps).length < 2000 → ps.length < n → i + ps.length ≤ 1000 →
    q_ls p psr pn acc (plc, pms, plv, psn) → (q_dd acc (q_lc o ps)).length ≤ 1001 →
    q_ls p psr pn (q_dd acc (q_lc o ps)) (tw_PA_meetItems_h21 psr (iN p) b (iN (p + o + (q_en ps).length)) n (iN (p + o)) (iN i) plc pms plv psn) := by
  intro ps
  induction ps with
  | nil =>
    intro o n i acc plc pms plv psn _ _ hs hn hi h _
    obtain ⟨n, rfl⟩ : ∃ m, n = m + 1 := ⟨n - 1, by omega⟩
    unfold tw_PA_meetItems_h21
    have z : (q_en ([] : List q_P)).length = 0 := rfl
    rw [z, Nat.add_zero, if_pos (Int32.le_refl (iN (p + o)))]
    split
    · exact h
    · exact h
  | cons y r ih =>
    intro o n i acc plc pms plv psn hs ho hb hn hi h hl
    obtain ⟨n, rfl⟩ : ∃ m, n = m + 1 := ⟨n - 1, by omega⟩
    obtain ⟨h1, h2⟩ := sb_en hs
    obtain ⟨hm, hk⟩ := ho y List.mem_cons_self
    have e1 := q_e1l y
    have e2 := q_enl y r
    have kx := q_okn hk
    have s1 := sb_e1 h1
    rw [List.length_cons] at *
    have y0 : y.1 ≠ 0 := by
      intro q
      rw [q] at kx
      exact kx.2 rfl
    have el : q_lc o (y :: r) = (o + y.2.1.length + 2, y.1, y.2.2) :: q_lc (o + (q_e1 y).length) r := rfl
    have er : q_rl p (o + y.2.1.length + 2, y.1, y.2.2) = iN (32 * (p + o + y.2.1.length + 2) + y.1.toNat) := by
      unfold q_rl
      rw [if_neg (show ¬ y.1 = 0 from y0)]
      exact congrArg iN (by show 32 * (p + (o + y.2.1.length + 2)) + y.1.toNat = _; omega)
    rw [el] at hl ⊢
    have hl1 : (q_ad acc (o + y.2.1.length + 2, y.1, y.2.2)).length ≤ 1001 := Nat.le_trans (q_ddl _ _) hl
    have M := q_mt (z := (o + y.2.1.length + 2, y.1, y.2.2)) h (Or.inr ⟨kx.1, y0, by show o + y.2.1.length + 2 < 2000; omega⟩) (by omega) hl1
    unfold tw_PA_meetItems_h21
    rw [q_vo h1 kx.1 hm (by omega), q_eo hk s1.2.2.2 (by omega), ← er, q_tp4]
    have g1 : ¬ 1000 ≤ iN i := by
      simp (disch := omega) only [i_1000, iN_a, iN_c, iN_le, iN_lt, iN_eq, iN_i]
      omega
    have g2 : ¬ iN (p + o + (q_en (y :: r)).length) ≤ iN (p + o) := by
      simp (disch := omega) only [iN_a, iN_c, iN_le, iN_lt, iN_eq, iN_i]
      omega
    rw [if_neg g1, if_neg g2, show iN i + 1 = iN (i + 1) from iN_a i 1, show p + o + y.2.1.length + 2 + y.2.2.length = p + (o + (q_e1 y).length) by omega, show p + o + (q_en (y :: r)).length = p + (o + (q_e1 y).length) + (q_en r).length by omega]
    exact ih (o + (q_e1 y).length) n (i + 1) _ _ _ _ _ (by rw [← Nat.add_assoc]; exact h2) (fun z hz => ho z (List.mem_cons_of_mem _ hz)) (by omega) (by omega) (by omega) M hl
theorem q_gi_h {f3 : Int32 → Bool → (Nat → Int32) → (Nat → Int32) → Int32 → Int32 × Bool × (Nat → Int32) × (Nat → Int32)} {b : Nat → UInt8} {p d : Nat} {psr p1 p2 : Int32} {pn : Nat → Int32} {g : q_L → List q_L} (hp : p < 190000) : ∀ (ps : List q_P) (o n i : Nat) (acc : List q_L) (plc : Int32) (pms : Bool) (plv psn : Nat → Int32),
    sb b (p + o) (q_en ps) → q_op d ps → o + (q_en ps).length < 2000 → ps.length < n → i + ps.length ≤ 1000 → q_ls p psr pn acc (plc, pms, plv, psn) → (q_dd acc (((q_lc o ps).filter (fun w => w.2.1 == 3)).flatMap g)).length ≤ 1001 →
    (∀ z ∈ q_lc o ps, z.2.1 = 3 → ∀ acc plc pms plv psn, q_ls p psr pn acc (plc, pms, plv, psn) → (q_dd acc (g z)).length ≤ 1001 → q_ls p psr pn (q_dd acc (g z)) (f3 plc pms plv psn (iN (32 * (p + z.1) + 3)))) →
    q_ls p psr pn (q_dd acc (((q_lc o ps).filter (fun w => w.2.1 == 3)).flatMap g)) (tw_PA_goOnAtItems_h23 f3 b p1 p2 (iN (p + o + (q_en ps).length)) n (iN (p + o)) (iN i) plc pms plv psn) := by
  intro ps
  induction ps with
  | nil =>
    intro o n i acc plc pms plv psn _ _ hs hn hi h _ _
    obtain ⟨n, rfl⟩ : ∃ m, n = m + 1 := ⟨n - 1, by omega⟩
    unfold tw_PA_goOnAtItems_h23
    have z : (q_en ([] : List q_P)).length = 0 := rfl
    rw [z, Nat.add_zero, if_pos (Int32.le_refl (iN (p + o)))]
    split
    · exact h
    · exact h
  | cons y r ih =>
    intro o n i acc plc pms plv psn hs ho hb hn hi h hl hg
    obtain ⟨n, rfl⟩ : ∃ m, n = m + 1 := ⟨n - 1, by omega⟩
    obtain ⟨h1, h2⟩ := sb_en hs
    obtain ⟨hm, hk⟩ := ho y List.mem_cons_self
    have e1 := q_e1l y
    have e2 := q_enl y r
    have kx := q_okn hk
    have s1 := sb_e1 h1
    rw [List.length_cons] at *
    have el : q_lc o (y :: r) = (o + y.2.1.length + 2, y.1, y.2.2) :: q_lc (o + (q_e1 y).length) r := rfl
    rw [el] at hl hg ⊢
    rw [List.filter_cons] at hl ⊢
    unfold tw_PA_goOnAtItems_h23 tw_ST_kindOf
    rw [q_vo h1 kx.1 hm (by omega), q_eo hk s1.2.2.2 (by omega), q_tp4]
    have kd : (iN (32 * (p + o + y.2.1.length + 2) + y.1.toNat) &&& 31) = iN y.1.toNat := q_k (by omega) kx.1
    rw [kd, i_3, qy_3]
    have g1 : ¬ 1000 ≤ iN i := by
      simp (disch := omega) only [i_1000, iN_a, iN_c, iN_le, iN_lt, iN_eq, iN_i]
      omega
    have g2 : ¬ iN (p + o + (q_en (y :: r)).length) ≤ iN (p + o) := by
      simp (disch := omega) only [iN_a, iN_c, iN_le, iN_lt, iN_eq, iN_i]
      omega
    rw [if_neg g1, if_neg g2, show iN i + 1 = iN (i + 1) from iN_a i 1, show p + o + y.2.1.length + 2 + y.2.2.length = p + (o + (q_e1 y).length) by omega, show p + o + (q_en (y :: r)).length = p + (o + (q_e1 y).length) + (q_en r).length by omega]
    have IH := fun acc plc pms plv psn => ih (o + (q_e1 y).length) n (i + 1) acc plc pms plv psn (by rw [← Nat.add_assoc]; exact h2) (fun z hz => ho z (List.mem_cons_of_mem _ hz)) (by omega) (by omega) (by omega)
    by_cases k3 : y.1 = 3
    · have t : ((o + y.2.1.length + 2, y.1, y.2.2) : q_L).2.1 == 3 := by
        show (y.1 == 3) = true
        simp [k3]
      rw [if_pos t, List.flatMap_cons, q_dda] at hl ⊢
      rw [if_pos k3]
      have G := hg (o + y.2.1.length + 2, y.1, y.2.2) List.mem_cons_self k3 acc plc pms plv psn h (Nat.le_trans (q_ddl _ _) hl)
      have er : iN (32 * (p + o + y.2.1.length + 2) + y.1.toNat) = iN (32 * (p + (o + y.2.1.length + 2)) + 3) := by
        rw [k3]
        exact congrArg iN (by show 32 * (p + o + y.2.1.length + 2) + 3 = _; omega)
      rw [er]
      exact IH _ _ _ _ _ G hl (fun z hz => hg z (List.mem_cons_of_mem _ hz))
    · have t : ¬ (((o + y.2.1.length + 2, y.1, y.2.2) : q_L).2.1 == 3) = true := by
        show ¬ (y.1 == 3) = true
        simp [k3]
      rw [if_neg t] at hl ⊢
      rw [if_neg k3]
      exact IH _ _ _ _ _ h hl (fun z hz => hg z (List.mem_cons_of_mem _ hz))
