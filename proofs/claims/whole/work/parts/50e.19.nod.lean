/-! the pure part: the places inside a value -/
def q_ng (g : q_L → List q_L) : Nat → List q_P → List q_L
  | _, [] => []
  | o, x :: r => (if x.2.1 = [] then [] else [((o + x.2.1.length + 2, x.1, x.2.2) : q_L)]) ++ (g (o + x.2.1.length + 2, x.1, x.2.2) ++ q_ng g (o + (q_e1 x).length) r)
def q_nd : Nat → q_L → List q_L
  | 0, _ => []
  | d + 1, z => if z.2.1 = 3 ∨ z.2.1 = 4 then q_ng (q_nd d) (z.1 + 4) (q_ps z.2.2) else []
theorem q_ngc (g : q_L → List q_L) (o : Nat) (x : q_P) (r : List q_P) : q_ng g o (x :: r) = (if x.2.1 = [] then [] else [((o + x.2.1.length + 2, x.1, x.2.2) : q_L)]) ++ (g (o + x.2.1.length + 2, x.1, x.2.2) ++ q_ng g (o + (q_e1 x).length) r) := rfl
theorem q_ngf {g : q_L → List q_L} : ∀ (ps : List q_P) (o : Nat), (∀ x ∈ ps, ∀ u, (∀ w ∈ g (u, x.1, x.2.2), u < w.1 ∧ w.1 + w.2.2.length ≤ u + x.2.2.length ∧ w.2.1 ≠ 0) ∧ (g (u, x.1, x.2.2)).Pairwise (fun a b => a.1 < b.1) ∧ 3 * (g (u, x.1, x.2.2)).length ≤ x.2.2.length ∧ x.1 ≠ 0) →
    (∀ w ∈ q_ng g o ps, o + 2 ≤ w.1 ∧ w.1 + w.2.2.length ≤ o + (q_en ps).length ∧ w.2.1 ≠ 0) ∧ (q_ng g o ps).Pairwise (fun a b => a.1 < b.1) ∧ 3 * (q_ng g o ps).length ≤ (q_en ps).length := by
  intro ps
  induction ps with
  | nil =>
    intro o _
    exact ⟨(fun w hw => by cases hw), List.Pairwise.nil, Nat.le_refl _⟩
  | cons x r ih =>
    intro o h
    obtain ⟨i1, i2, i3⟩ := ih (o + (q_e1 x).length) (fun y hy => h y (List.mem_cons_of_mem _ hy))
    obtain ⟨g1, g2, g3, g4⟩ := h x List.mem_cons_self (o + x.2.1.length + 2)
    have e1 := q_e1l x
    have e2 := q_enl x r
    rw [q_ngc]
    refine ⟨?_, ?_, ?_⟩
    · intro w hw
      rcases List.mem_append.1 hw with hw | hw
      · split at hw
        · cases hw
        · rw [List.mem_singleton] at hw
          subst hw
          exact ⟨by show o + 2 ≤ o + x.2.1.length + 2; omega, by show o + x.2.1.length + 2 + x.2.2.length ≤ _; omega, g4⟩
      · rcases List.mem_append.1 hw with hw | hw
        · have := g1 w hw
          exact ⟨by omega, by omega, this.2.2⟩
        · have := i1 w hw
          exact ⟨by omega, by omega, this.2.2⟩
    · rw [List.pairwise_append]
      refine ⟨?_, ?_, ?_⟩
      · split
        · exact List.Pairwise.nil
        · exact List.pairwise_singleton _ _
      · rw [List.pairwise_append]
        refine ⟨g2, i2, ?_⟩
        intro a ha c hc
        have := g1 a ha
        have := i1 c hc
        omega
      · intro a ha c hc
        split at ha
        · cases ha
        · rw [List.mem_singleton] at ha
          subst ha
          show o + x.2.1.length + 2 < c.1
          rcases List.mem_append.1 hc with hc | hc
          · have := g1 c hc
            omega
          · have := i1 c hc
            omega
    · rw [List.length_append, List.length_append]
      split
      · rw [List.length_nil]
        omega
      · next q =>
        have : 0 < x.2.1.length := List.length_pos_iff.2 q
        rw [List.length_cons, List.length_nil]
        omega
theorem q_ndf : ∀ (d e o : Nat) (k : UInt8) (v : List UInt8), q_ok e k v → v.length < 4294967296 →
    (∀ w ∈ q_nd d (o, k, v), o < w.1 ∧ w.1 + w.2.2.length ≤ o + v.length ∧ w.2.1 ≠ 0) ∧ (q_nd d (o, k, v)).Pairwise (fun a b => a.1 < b.1) ∧ 3 * (q_nd d (o, k, v)).length ≤ v.length := by
  intro d
  induction d with
  | zero =>
    intro e o k v _ _
    exact ⟨(fun w hw => by cases hw), List.Pairwise.nil, Nat.zero_le _⟩
  | succ d ih =>
    intro e o k v ho hv
    unfold q_nd
    by_cases kb : k = 3 ∨ k = 4
    · rw [if_pos kb]
      obtain ⟨e1, ps, he, rfl, o1, _⟩ := q_okd ho kb
      simp only [q_psb o1 hv]
      rw [q_bxl] at hv ⊢
      obtain ⟨i1, i2, i3⟩ := q_ngf (g := q_nd d) ps (o + 4) (by
        intro x hx u
        have := q_enm hx
        obtain ⟨j1, j2, j3⟩ := ih e1 u x.1 x.2.2 (o1 x hx).2 (by omega)
        refine ⟨j1, j2, j3, ?_⟩
        intro q
        have := q_okn (o1 x hx).2
        rw [q] at this
        exact this.2 rfl)
      refine ⟨?_, i2, by omega⟩
      intro w hw
      have := i1 w hw
      exact ⟨by omega, by omega, this.2.2⟩
    · rw [if_neg kb]
      exact ⟨(fun w hw => by cases hw), List.Pairwise.nil, Nat.zero_le _⟩
theorem q_ngm {g : q_L → List q_L} {x : q_P} {c : List q_P} : ∀ (a : List q_P) (o : Nat), (x.2.1 ≠ [] → ((o + (q_en a).length + x.2.1.length + 2, x.1, x.2.2) : q_L) ∈ q_ng g o (a ++ x :: c)) ∧ (∀ w ∈ g (o + (q_en a).length + x.2.1.length + 2, x.1, x.2.2), w ∈ q_ng g o (a ++ x :: c)) := by
  intro a
  induction a with
  | nil =>
    intro o
    rw [List.nil_append, q_ngc]
    refine ⟨fun q => ?_, fun w hw => ?_⟩
    · rw [if_neg q]
      exact List.mem_append_left _ (List.mem_singleton.2 rfl)
    · exact List.mem_append_right _ (List.mem_append_left _ hw)
  | cons y a ih =>
    intro o
    obtain ⟨i1, i2⟩ := ih (o + (q_e1 y).length)
    have e : o + (q_en (y :: a)).length = o + (q_e1 y).length + (q_en a).length := by
      rw [q_enc, List.length_append]
      omega
    rw [List.cons_append, q_ngc, e]
    exact ⟨fun q => List.mem_append_right _ (List.mem_append_right _ (i1 q)), fun w hw => List.mem_append_right _ (List.mem_append_right _ (i2 w hw))⟩
theorem q_dgn (i : Nat) : q_dg i ≠ [] := by
  unfold q_dg
  split
  · simp
  · split <;> simp
theorem q_nrn {ps : List q_P} {x : q_P} : ∀ {i : Nat}, q_nr i ps → x ∈ ps → x.2.1 ≠ [] := by
  induction ps with
  | nil =>
    intro i _ h
    cases h
  | cons y r ih =>
    intro i h hx
    rcases List.mem_cons.1 hx with rfl | hx
    · rw [h.1]
      exact q_dgn i
    · exact ih h.2 hx
/-- all leaves lie at places inside -/
theorem q_lvm : ∀ (m d e o : Nat) (k : UInt8) (v : List UInt8) (xs : List (List UInt8)) (z : q_L), q_ok e k v → v.length < 4294967296 → e ≤ d → (∀ x ∈ xs, q_gs x) → z ∈ q_lv m xs (o, k, v) → z = q_ms ∨ (xs = [] ∧ z = (o, k, v)) ∨ z ∈ q_nd d (o, k, v) := by
  intro m
  induction m with
  | zero =>
    intro d e o k v xs z _ _ _ _ hz
    cases xs <;> cases hz
  | succ m ih =>
    intro d e o k v xs z ho hv he hx hz
    cases xs with
    | nil =>
      rw [q_lvn] at hz
      rcases List.mem_cons.1 hz with hz | hz
      · exact Or.inr (Or.inl ⟨rfl, hz⟩)
      · split at hz
        · next k4 =>
          have k4 : k = 4 := k4
          obtain ⟨e1, ps, he1, rfl, o1, nk⟩ := q_okd ho (Or.inr k4)
          obtain ⟨d, rfl⟩ : ∃ j, d = j + 1 := ⟨d - 1, by omega⟩
          simp only [q_psb o1 hv] at hz
          right
          right
          unfold q_nd
          rw [if_pos (Or.inr k4)]
          simp only [q_psb o1 hv]
          obtain ⟨a, x, c, h1, h2⟩ := q_lcn hz
          have xm : x ∈ ps := by
            rw [h1]
            simp
          rw [h2, h1]
          exact (q_ngm a (o + 4)).1 (q_nrn (nk.2 k4) xm)
        · cases hz
    | cons x xs =>
      rw [q_lvs] at hz
      have hx' : ∀ y ∈ xs, q_gs y := fun y hy => hx y (List.mem_cons_of_mem _ hy)
      have gx := hx x List.mem_cons_self
      by_cases kb : k = 3 ∨ k = 4
      · obtain ⟨e1, ps, he1, rfl, o1, nk⟩ := q_okd ho kb
        obtain ⟨d, rfl⟩ : ∃ j, d = j + 1 := ⟨d - 1, by omega⟩
        have psb := q_psb o1 hv
        simp only [psb] at hz
        have nd : q_nd (d + 1) (o, k, q_bx ps) = q_ng (q_nd d) (o + 4) ps := by
          conv => lhs; unfold q_nd
          rw [if_pos kb]
          simp only [psb]
        rw [nd]
        rw [q_bxl] at hv
        have step : ∀ y : Nat × q_P, q_fn x ps = some y → z ∈ q_lv m xs (o + 4 + y.1 + y.2.2.1.length + 2, y.2.1, y.2.2.2) → z = q_ms ∨ z ∈ q_ng (q_nd d) (o + 4) ps := by
          intro y hy hz
          obtain ⟨f1, f2, a, c2, f3, f4⟩ := q_fnm (o := y.1) (y := y.2) hy
          have := q_enm f1
          have M := q_ngm (g := q_nd d) (x := y.2) (c := c2) a (o + 4)
          rw [← f3, ← f4] at M
          rcases ih d e1 _ y.2.1 y.2.2.2 xs z (o1 y.2 f1).2 (by omega) (by omega) hx' hz with h | ⟨_, h⟩ | h
          · exact Or.inl h
          · right
            rw [h]
            exact M.1 (by rw [f2]; exact gx.1)
          · exact Or.inr (M.2 z h)
        have fin : (z = q_ms ∨ z ∈ q_ng (q_nd d) (o + 4) ps) → z = q_ms ∨ (x :: xs = [] ∧ z = (o, k, q_bx ps)) ∨ z ∈ q_ng (q_nd d) (o + 4) ps := by
          rintro (h | h)
          · exact Or.inl h
          · exact Or.inr (Or.inr h)
        apply fin
        by_cases k3 : k = 3
        · rw [if_pos (show k = 3 from k3)] at hz
          cases hy : q_fn x ps with
          | none =>
            rw [hy] at hz
            exact Or.inl (List.mem_singleton.1 hz)
          | some y =>
            rw [hy] at hz
            exact step y hy hz
        · have k4 : k = 4 := by
            rcases kb with q | q
            · exact absurd q k3
            · exact q
          rw [if_neg (show ¬ k = 3 from k3), if_pos (show k = 4 from k4)] at hz
          rcases List.mem_append.1 hz with hz | hz
          · cases hy : q_fn x ps with
            | none =>
              rw [hy] at hz
              cases hz
            | some y =>
              rw [hy] at hz
              exact step y hy hz
          · obtain ⟨w, hw, hz⟩ := List.mem_flatMap.1 hz
            obtain ⟨hw, _⟩ := List.mem_filter.1 hw
            obtain ⟨a, y, c, h1, h2⟩ := q_lcn hw
            have ym : y ∈ ps := by
              rw [h1]
              simp
            have := q_enm ym
            subst h2
            have M := q_ngm (g := q_nd d) (x := y) (c := c) a (o + 4)
            rw [← h1] at M
            rcases ih d e1 _ y.1 y.2.2 (x :: xs) z (o1 y ym).2 (by omega) (by omega) hx hz with h | ⟨h, _⟩ | h
            · exact Or.inl h
            · cases h
            · exact Or.inr (M.2 z h)
      · rw [if_neg (show ¬ k = 3 from fun q => kb (Or.inl q)), if_neg (show ¬ k = 4 from fun q => kb (Or.inr q))] at hz
        exact Or.inl (List.mem_singleton.1 hz)
/-- a list without repeats is no longer than one that holds all of it -/
theorem q_ndl {A : Type} : ∀ (l m : List A), l.Nodup → (∀ z ∈ l, z ∈ m) → l.length ≤ m.length := by
  intro l
  induction l with
  | nil => exact fun _ _ _ => Nat.zero_le _
  | cons x l ih =>
    intro m hn hm
    obtain ⟨a, c, rfl⟩ := List.append_of_mem (hm x List.mem_cons_self)
    rw [List.nodup_cons] at hn
    have := ih (a ++ c) hn.2 (by
      intro z hz
      have h := hm z (List.mem_cons_of_mem _ hz)
      rcases List.mem_append.1 h with h | h
      · exact List.mem_append_left _ h
      · rcases List.mem_cons.1 h with h | h
        · exact absurd (h ▸ hz) hn.1
        · exact List.mem_append_right _ h)
    rw [List.length_append] at this
    rw [List.length_append, List.length_cons, List.length_cons]
    omega
/-- a list of places that is in order: a place tells what lies there -/
theorem q_uni {N : List q_L} (hN : N.Pairwise (fun a b => a.1 < b.1)) {z w : q_L} (hz : z ∈ N) (hw : w ∈ N) (e : z.1 = w.1) : z = w := by
  induction N with
  | nil => cases hz
  | cons x N ih =>
    rw [List.pairwise_cons] at hN
    rcases List.mem_cons.1 hz with hz | hz
    · rcases List.mem_cons.1 hw with hw | hw
      · rw [hz, hw]
      · have := hN.1 w hw
        rw [hz] at e
        omega
    · rcases List.mem_cons.1 hw with hw | hw
      · have := hN.1 z hz
        rw [hw] at e
        omega
      · exact ih hN.2 hz hw
/-- what is held while leaves come, each once -/
def q_ac (N : List q_L) (acc : List q_L) : Prop := (∀ z ∈ acc, z = q_ms ∨ z ∈ N) ∧ acc.Nodup
theorem q_kwi {N acc : List q_L} {z : q_L} (hN : N.Pairwise (fun a b => a.1 < b.1)) (h0 : ∀ w ∈ N, w.2.1 ≠ 0) (ha : q_ac N acc) (hz : z = q_ms ∨ z ∈ N) : q_kw acc z = true ↔ z ∈ acc := by
  unfold q_kw
  rcases hz with rfl | hz
  · rw [if_pos (show q_ms.2.1 = 0 from rfl), List.any_eq_true]
    constructor
    · rintro ⟨w, hw, q⟩
      rcases ha.1 w hw with rfl | hwN
      · exact hw
      · exact absurd (by simpa using q) (h0 w hwN)
    · intro q
      exact ⟨q_ms, q, by simp [q_ms]⟩
  · rw [if_neg (h0 z hz), List.any_eq_true]
    constructor
    · rintro ⟨w, hw, q⟩
      simp only [Bool.and_eq_true, bne_iff_ne, ne_eq, beq_iff_eq] at q
      rcases ha.1 w hw with rfl | hwN
      · exact absurd rfl q.1
      · rw [q_uni hN hz hwN q.2.symm]
        exact hw
    · intro q
      refine ⟨z, q, ?_⟩
      simp only [Bool.and_eq_true, bne_iff_ne, ne_eq, beq_iff_eq]
      exact ⟨h0 z hz, trivial⟩
theorem q_adi {N acc : List q_L} {z : q_L} (hN : N.Pairwise (fun a b => a.1 < b.1)) (h0 : ∀ w ∈ N, w.2.1 ≠ 0) (ha : q_ac N acc) (hz : z = q_ms ∨ z ∈ N) : q_ac N (q_ad acc z) ∧ ∀ w, w ∈ q_ad acc z ↔ w ∈ acc ∨ w = z := by
  have k := q_kwi hN h0 ha hz
  unfold q_ad
  by_cases c : q_kw acc z = true
  · rw [if_pos c]
    refine ⟨ha, fun w => ⟨fun q => Or.inl q, ?_⟩⟩
    rintro (q | rfl)
    · exact q
    · exact k.1 c
  · rw [if_neg c]
    refine ⟨⟨?_, ?_⟩, ?_⟩
    · intro w hw
      rcases List.mem_append.1 hw with hw | hw
      · exact ha.1 w hw
      · rw [List.mem_singleton.1 hw]
        exact hz
    · rw [List.nodup_append]
      refine ⟨ha.2, by simp, ?_⟩
      intro a ha2 b hb
      rw [List.mem_singleton] at hb
      subst hb
      intro q
      subst q
      exact c (k.2 ha2)
    · intro w
      rw [List.mem_append, List.mem_singleton]
theorem q_ddi {N : List q_L} (hN : N.Pairwise (fun a b => a.1 < b.1)) (h0 : ∀ w ∈ N, w.2.1 ≠ 0) : ∀ (L acc : List q_L), (∀ z ∈ L, z = q_ms ∨ z ∈ N) → q_ac N acc → q_ac N (q_dd acc L) ∧ ∀ w, w ∈ q_dd acc L ↔ w ∈ acc ∨ w ∈ L := by
  intro L
  induction L with
  | nil =>
    intro acc _ ha
    exact ⟨ha, fun w => by simp [q_dd]⟩
  | cons z L ih =>
    intro acc hL ha
    obtain ⟨a1, a2⟩ := q_adi hN h0 ha (hL z List.mem_cons_self)
    obtain ⟨b1, b2⟩ := ih (q_ad acc z) (fun w hw => hL w (List.mem_cons_of_mem _ hw)) a1
    refine ⟨b1, fun w => ?_⟩
    show w ∈ q_dd (q_ad acc z) L ↔ _
    rw [b2, a2, List.mem_cons, or_assoc]
/-- the best one, the first of the SAME -/
def q_fm (B : q_L → q_L → Bool) (l : List q_L) : Option q_L := l.foldl (fun b z => match b with | none => some z | some b => if B z b = true then some z else some b) none
theorem q_fma (B : q_L → q_L → Bool) (l : List q_L) (z : q_L) : q_fm B (l ++ [z]) = (match q_fm B l with | none => some z | some b => if B z b = true then some z else some b) := by
  unfold q_fm
  rw [List.foldl_append]
  rfl
theorem q_snoc {A : Type} {P : List A → Prop} (h0 : P []) (h1 : ∀ l x, P l → P (l ++ [x])) (l : List A) : P l := by
  have : ∀ l : List A, P l.reverse := by
    intro l
    induction l with
    | nil => exact h0
    | cons x l ih =>
      rw [List.reverse_cons]
      exact h1 _ _ ih
  have h := this l.reverse
  rwa [List.reverse_reverse] at h
theorem q_fmb {B : q_L → q_L → Bool} (hB : ∀ a b d, B a b = true → B b d = true → B a d = true) (hi : ∀ a, B a a = false) (l : List q_L) : (q_fm B l = none ↔ l = []) ∧ ∀ b, q_fm B l = some b → b ∈ l ∧ ∀ z ∈ l, B z b = false := by
  refine q_snoc (P := fun l => (q_fm B l = none ↔ l = []) ∧ ∀ b, q_fm B l = some b → b ∈ l ∧ ∀ z ∈ l, B z b = false) ⟨by simp [q_fm], fun b h => by cases h⟩ ?_ l
  intro l x ⟨i1, i2⟩
  rw [q_fma]
  cases hl : q_fm B l with
  | none =>
    have := i1.1 hl
    subst this
    refine ⟨by simp, fun b h => ?_⟩
    injection h with h
    subst h
    refine ⟨by simp, fun z hz => ?_⟩
    simp at hz
    rw [hz]
    exact hi x
  | some c =>
    obtain ⟨j1, j2⟩ := i2 c hl
    have ne : l ++ [x] ≠ [] := by simp
    dsimp only
    by_cases q : B x c = true
    · rw [if_pos q]
      refine ⟨⟨(fun h => by cases h), fun h => absurd h ne⟩, fun b h => ?_⟩
      injection h with h
      subst h
      refine ⟨by simp, fun z hz => ?_⟩
      rcases List.mem_append.1 hz with hz | hz
      · cases hq : B z x with
        | false => rfl
        | true =>
          have := hB z x c hq q
          rw [j2 z hz] at this
          cases this
      · rw [List.mem_singleton.1 hz]
        exact hi x
    · rw [if_neg q]
      refine ⟨⟨(fun h => by cases h), fun h => absurd h ne⟩, fun b h => ?_⟩
      injection h with h
      subst h
      refine ⟨List.mem_append_left _ j1, fun z hz => ?_⟩
      rcases List.mem_append.1 hz with hz | hz
      · exact j2 z hz
      · rw [List.mem_singleton.1 hz]
        cases hq : B x c with
        | false => rfl
        | true => exact absurd hq q
theorem q_fmd {N : List q_L} {B : q_L → q_L → Bool} (hB : ∀ a b d, B a b = true → B b d = true → B a d = true) (hi : ∀ a, B a a = false) (hN : N.Pairwise (fun a b => a.1 < b.1)) (h0 : ∀ w ∈ N, w.2.1 ≠ 0) :
    ∀ (L acc P : List q_L), (∀ z ∈ L, z = q_ms ∨ z ∈ N) → q_ac N acc → (∀ z, z ∈ acc ↔ z ∈ P) → q_fm B acc = q_fm B P → q_fm B (q_dd acc L) = q_fm B (P ++ L) := by
  intro L
  induction L with
  | nil =>
    intro acc P _ _ _ h
    rw [List.append_nil]
    exact h
  | cons z L ih =>
    intro acc P hL ha hP h
    have zz := hL z List.mem_cons_self
    obtain ⟨a1, a2⟩ := q_adi hN h0 ha zz
    have := ih (q_ad acc z) (P ++ [z]) (fun w hw => hL w (List.mem_cons_of_mem _ hw)) a1 (fun w => by rw [a2, hP, List.mem_append, List.mem_singleton]) ?_
    · rw [List.append_assoc] at this
      exact this
    · unfold q_ad
      by_cases c : q_kw acc z = true
      · rw [if_pos c, q_fma, h]
        have zp : z ∈ P := (hP z).1 ((q_kwi hN h0 ha zz).1 c)
        obtain ⟨i1, i2⟩ := q_fmb hB hi P
        cases hq : q_fm B P with
        | none =>
          rw [i1.1 hq] at zp
          cases zp
        | some b =>
          have := (i2 b hq).2 z zp
          dsimp only
          rw [if_neg (by rw [this]; decide)]
      · rw [if_neg c, q_fma, q_fma, h]
