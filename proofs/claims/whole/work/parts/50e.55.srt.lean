/-! the pure part: where leaves lie; sorting -/
def q_in (o : Nat) (v : List UInt8) (z : q_L) : Prop := ∃ a c, v = a ++ (z.2.2 ++ c) ∧ z.1 = o + a.length
theorem q_inb {o : Nat} {a c : List q_P} {x : q_P} : q_in o (q_bx (a ++ x :: c)) (o + 4 + (q_en a).length + x.2.1.length + 2, x.1, x.2.2) := by
  refine ⟨q_l4 ((q_en (a ++ x :: c)).length + 5) ++ (q_en a ++ (x.1 :: (x.2.1 ++ [0]))), q_en c ++ [0], ?_, ?_⟩
  · conv => lhs; unfold q_bx
    conv => lhs; arg 2; rw [q_ena, q_enc]
    unfold q_e1
    simp [List.append_assoc]
  · simp only [List.length_append, List.length_cons, List.length_nil, q_l4l]
    omega
theorem q_itr {o : Nat} {v : List UInt8} {y z : q_L} (h : q_in o v y) (h2 : q_in y.1 y.2.2 z) : q_in o v z := by
  obtain ⟨a, c, e1, e2⟩ := h
  obtain ⟨a2, c2, e3, e4⟩ := h2
  refine ⟨a ++ a2, c2 ++ c, ?_, ?_⟩
  · rw [e1, e3]
    simp [List.append_assoc]
  · rw [e4, e2, List.length_append]
    omega
theorem q_ile {o : Nat} {v : List UInt8} {z : q_L} (h : q_in o v z) : o ≤ z.1 ∧ z.1 + z.2.2.length ≤ o + v.length := by
  obtain ⟨a, c, e1, e2⟩ := h
  rw [e1, List.length_append, List.length_append]
  omega
theorem q_isb {b : Nat → UInt8} {p o : Nat} {v : List UInt8} {z : q_L} (h : q_in o v z) (hs : sb b (p + o) v) : sb b (p + z.1) z.2.2 := by
  obtain ⟨a, c, e1, e2⟩ := h
  rw [e1] at hs
  have := (sb_ap.1 (sb_ap.1 hs).2).1
  rwa [Nat.add_assoc, ← e2] at this
theorem q_ism {st : Nat → Int32} {p o : Nat} {v : List UInt8} {z : q_L} (h : q_in o v z) (hs : sm st (p + o) v) : sm st (p + z.1) z.2.2 := by
  obtain ⟨a, c, e1, e2⟩ := h
  rw [e1] at hs
  have := (sm_ap.1 (sm_ap.1 hs).2).1
  rwa [Nat.add_assoc, ← e2] at this
theorem q_lvo : ∀ (m e o : Nat) (k : UInt8) (v : List UInt8) (xs : List (List UInt8)) (z : q_L), q_ok e k v → v.length < 4294967296 → z ∈ q_lv m xs (o, k, v) → z = q_ms ∨ (q_ok e z.2.1 z.2.2 ∧ q_in o v z) := by
  intro m
  induction m with
  | zero =>
    intro e o k v xs z _ _ hz
    cases xs <;> cases hz
  | succ m ih =>
    intro e o k v xs z ho hv hz
    cases xs with
    | nil =>
      rw [q_lvn] at hz
      rcases List.mem_cons.1 hz with hz | hz
      · right
        rw [hz]
        exact ⟨ho, [], [], by simp, rfl⟩
      · split at hz
        · next k4 =>
          have k4 : k = 4 := k4
          obtain ⟨e1, ps, he1, rfl, o1, nk⟩ := q_okd ho (Or.inr k4)
          simp only [q_psb o1 hv] at hz
          right
          obtain ⟨a, x, c, h1, h2⟩ := q_lcn hz
          have xm : x ∈ ps := by
            rw [h1]
            simp
          rw [h2]
          refine ⟨q_okm (o1 x xm).2 (by omega), ?_⟩
          rw [h1]
          exact q_inb
        · cases hz
    | cons x xs =>
      rw [q_lvs] at hz
      by_cases kb : k = 3 ∨ k = 4
      · obtain ⟨e1, ps, he1, rfl, o1, nk⟩ := q_okd ho kb
        have psb := q_psb o1 hv
        simp only [psb] at hz
        have hv' := hv
        rw [q_bxl] at hv
        have sub : ∀ (y : q_P) (o2 : Nat) (xs' : List (List UInt8)), y ∈ ps → q_in o (q_bx ps) (o2, y.1, y.2.2) → z ∈ q_lv m xs' (o2, y.1, y.2.2) → z = q_ms ∨ (q_ok e z.2.1 z.2.2 ∧ q_in o (q_bx ps) z) := by
          intro y o2 xs' ym hi hz
          have := q_enm ym
          rcases ih e1 o2 y.1 y.2.2 xs' z (o1 y ym).2 (by omega) hz with h | ⟨h1, h2⟩
          · exact Or.inl h
          · exact Or.inr ⟨q_okm h1 (by omega), q_itr hi h2⟩
        have step : ∀ y : Nat × q_P, q_fn x ps = some y → z ∈ q_lv m xs (o + 4 + y.1 + y.2.2.1.length + 2, y.2.1, y.2.2.2) → z = q_ms ∨ (q_ok e z.2.1 z.2.2 ∧ q_in o (q_bx ps) z) := by
          intro y hy hz
          obtain ⟨f1, f2, a, c2, f3, f4⟩ := q_fnm (o := y.1) (y := y.2) hy
          refine sub y.2 _ xs f1 ?_ hz
          rw [f4]
          conv => arg 2; rw [f3]
          exact q_inb
        by_cases k3 : k = 3
        · rw [if_pos (show k = 3 from k3)] at hz
          cases hy : q_fn x ps with
          | none =>
            rw [hy] at hz
            exact Or.inl (List.mem_singleton.1 hz)
          | some y =>
            rw [hy] at hz
            exact step y hy hz
        · have k4 : k = 4 := by
            rcases kb with q | q
            · exact absurd q k3
            · exact q
          rw [if_neg (show ¬ k = 3 from k3), if_pos (show k = 4 from k4)] at hz
          rcases List.mem_append.1 hz with hz | hz
          · cases hy : q_fn x ps with
            | none =>
              rw [hy] at hz
              cases hz
            | some y =>
              rw [hy] at hz
              exact step y hy hz
          · obtain ⟨w, hw, hz⟩ := List.mem_flatMap.1 hz
            obtain ⟨hw, _⟩ := List.mem_filter.1 hw
            obtain ⟨a, y, c, h1, h2⟩ := q_lcn hw
            have ym : y ∈ ps := by
              rw [h1]
              simp
            subst h2
            refine sub y _ (x :: xs) ym ?_ hz
            conv => arg 2; rw [h1]
            exact q_inb
      · rw [if_neg (show ¬ k = 3 from fun q => kb (Or.inl q)), if_neg (show ¬ k = 4 from fun q => kb (Or.inr q))] at hz
        exact Or.inl (List.mem_singleton.1 hz)
/-- before in the order c, and otherwise as Q -/
def q_SR {A : Type} (c : A → A → Int32) (Q : A → A → Prop) (a b : A) : Prop := c a b = -1 ∨ (c a b = 0 ∧ Q a b)
theorem q_isr {A : Type} {c : A → A → Int32} (hc : q_PO c) {Q : A → A → Prop} {l m : List A} {x : A} (h : (l ++ m).Pairwise (q_SR c Q)) (h1 : ∀ y ∈ l, c y x ≠ 1) (h2 : ∀ y ∈ m, c y x = 1) (hQ : ∀ y ∈ l, Q y x) : (l ++ x :: m).Pairwise (q_SR c Q) := by
  rw [List.pairwise_append] at h ⊢
  obtain ⟨p1, p2, p3⟩ := h
  refine ⟨p1, List.pairwise_cons.2 ⟨fun y hy => ?_, p2⟩, fun y hy z hz => ?_⟩
  · left
    rw [hc.2.1 y x, h2 y hy]
  · rcases List.mem_cons.1 hz with e | hz
    · subst e
      rcases hc.1 y z with q | q | q
      · exact Or.inr ⟨q, hQ y hy⟩
      · exact absurd q (h1 y hy)
      · exact Or.inl q
    · exact p3 y hy z hz
theorem q_mon {A : Type} {c : A → A → Int32} (hc : q_PO c) {Q : A → A → Prop} {l : List A} {x y z : A} {i j : Nat} (h : l.Pairwise (q_SR c Q)) (hi : l[i]? = some y) (hj : l[j]? = some z) (hij : i ≤ j) (hz : c z x ≠ 1) : c y x ≠ 1 := by
  obtain ⟨i1, i2⟩ := List.getElem?_eq_some_iff.1 hi
  obtain ⟨j1, j2⟩ := List.getElem?_eq_some_iff.1 hj
  by_cases e : i = j
  · subst e
    rw [hi] at hj
    cases hj
    exact hz
  · have := List.pairwise_iff_getElem.1 h i j i1 j1 (by omega)
    rw [i2, j2] at this
    refine hc.2.2 y z x ?_ hz
    rcases this with q | ⟨q, _⟩
    · rw [q]
      decide
    · rw [q]
      decide
theorem q_uq {A : Type} {R : A → A → Prop} (hR : ∀ a b, R a b → ¬ R b a) : ∀ (l m : List A), l.Perm m → l.Pairwise R → m.Pairwise R → l = m := by
  intro l
  induction l with
  | nil =>
    intro m h _ _
    exact (List.Perm.nil_eq h)
  | cons a l ih =>
    intro m h h1 h2
    cases m with
    | nil => exact absurd h.length_eq (by simp)
    | cons b m =>
      have e : a = b := by
        rcases List.mem_cons.1 (h.mem_iff.1 List.mem_cons_self) with q | q
        · exact q
        · rcases List.mem_cons.1 (h.mem_iff.2 (List.mem_cons_self (a := b) (l := m))) with q2 | q2
          · exact q2.symm
          · exact absurd ((List.pairwise_cons.1 h2).1 a q) (hR _ _ ((List.pairwise_cons.1 h1).1 b q2))
      subst e
      rw [ih m (List.Perm.cons_inv h) (List.pairwise_cons.1 h1).2 (List.pairwise_cons.1 h2).2]
theorem q_SRa {A : Type} {c : A → A → Int32} (hc : q_PO c) {Q : A → A → Prop} (hQ : ∀ a b, Q a b → ¬ Q b a) : ∀ a b, q_SR c Q a b → ¬ q_SR c Q b a := by
  intro a b h h2
  have e := hc.2.1 a b
  rcases h with h | ⟨h, hq⟩
  · rw [h, q_nn1] at e
    rcases h2 with h2 | ⟨h2, _⟩
    · rw [h2] at e
      exact absurd e (by decide)
    · rw [h2] at e
      exact absurd e (by decide)
  · rw [h, q_n0] at e
    rcases h2 with h2 | ⟨_, h2⟩
    · rw [h2] at e
      exact absurd e (by decide)
    · exact hQ a b hq h2
/-- an array holds a list from o on -/
def q_ar (f : Nat → Int32) (o : Nat) (l : List Nat) : Prop := ∀ j y, l[j]? = some y → f (o + j) = iN y
theorem q_ar0 (f : Nat → Int32) (o : Nat) : q_ar f o [] := fun j y h => by cases h
theorem q_arc {f : Nat → Int32} {o x : Nat} {l : List Nat} : q_ar f o (x :: l) ↔ f o = iN x ∧ q_ar f (o + 1) l := by
  constructor
  · intro h
    refine ⟨h 0 x rfl, fun j y hy => ?_⟩
    rw [show o + 1 + j = o + (j + 1) by omega]
    exact h (j + 1) y hy
  · rintro ⟨h1, h2⟩ j y hy
    cases j with
    | zero =>
      cases hy
      exact h1
    | succ j =>
      rw [show o + (j + 1) = o + 1 + j by omega]
      exact h2 j y hy
theorem q_ara {f : Nat → Int32} {l m : List Nat} : ∀ {o : Nat}, q_ar f o (l ++ m) ↔ q_ar f o l ∧ q_ar f (o + l.length) m := by
  induction l with
  | nil => exact ⟨fun h => ⟨q_ar0 _ _, h⟩, fun h => h.2⟩
  | cons x l ih =>
    intro o
    rw [List.cons_append, q_arc, q_arc, ih, List.length_cons, show o + (l.length + 1) = o + 1 + l.length by omega]
    exact ⟨fun h => ⟨⟨h.1, h.2.1⟩, h.2.2⟩, fun h => ⟨h.1.1, h.1.2, h.2⟩⟩
theorem q_arf {f g : Nat → Int32} {o : Nat} {l : List Nat} (h : q_ar f o l) (hf : ∀ j, o ≤ j → j < o + l.length → g j = f j) : q_ar g o l := by
  intro j y hy
  have := (List.getElem?_eq_some_iff.1 hy).1
  rw [hf (o + j) (by omega) (by omega)]
  exact h j y hy
/-- what stands from a to i - 1 goes one on, x comes in at a -/
def q_sh (f : Nat → Int32) (a i : Nat) (x : Int32) (j : Nat) : Int32 := if j < a then f j else if j = a then x else if j ≤ i then f (j - 1) else f j
theorem q_shr {f : Nat → Int32} {l m t : List Nat} {x : Nat} (h : q_ar f 0 (l ++ m)) (ht : q_ar f (l.length + m.length + 1) t) : q_ar (q_sh f l.length (l.length + m.length) (iN x)) 0 (l ++ x :: m ++ t) := by
  obtain ⟨h1, h2⟩ := q_ara.1 h
  rw [Nat.zero_add] at h2
  rw [q_ara, q_ara, q_arc, Nat.zero_add]
  refine ⟨⟨q_arf h1 (fun j u v => ?_), ?_, fun j y hy => ?_⟩, q_arf (f := f) (by rw [Nat.zero_add, List.length_append, List.length_cons, ← Nat.add_assoc]; exact ht) (fun j u v => ?_)⟩
  · unfold q_sh
    rw [if_pos (by omega)]
  · unfold q_sh
    rw [if_neg (by omega), if_pos rfl]
  · have := (List.getElem?_eq_some_iff.1 hy).1
    unfold q_sh
    rw [if_neg (by omega), if_neg (by omega), if_pos (by omega), ← h2 j y hy]
    exact congrArg f (by omega)
  · rw [List.length_append, List.length_cons] at u
    unfold q_sh
    rw [if_neg (by omega), if_neg (by omega), if_neg (by omega)]
