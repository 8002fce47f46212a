/-! the pure part: ORDER is a total preorder -/
def q_PO {A : Type} (c : A → A → Int32) : Prop := (∀ a b, q_s3 (c a b)) ∧ (∀ a b, c b a = -(c a b)) ∧ (∀ a b d, c a b ≠ 1 → c b d ≠ 1 → c a d ≠ 1)
theorem q_n0 : -(0 : Int32) = 0 := by decide
theorem q_n1 : -(1 : Int32) = -1 := by decide
theorem q_nn1 : -(-1 : Int32) = 1 := by decide
theorem q_01 : (0 : Int32) ≠ 1 := by decide
theorem q_m11 : (-1 : Int32) ≠ 1 := by decide
theorem q_m10 : (-1 : Int32) ≠ 0 := by decide
theorem q_10 : (1 : Int32) ≠ 0 := by decide
theorem q_POr {A : Type} {c : A → A → Int32} (h : q_PO c) (a : A) : c a a = 0 := by
  have h2 := h.2.1 a a
  rcases h.1 a a with e | e | e
  · exact e
  · rw [e] at h2
    exact absurd h2 (by decide)
  · rw [e] at h2
    exact absurd h2 (by decide)
theorem q_POl {A : Type} {c : A → A → Int32} (h : q_PO c) {a b d : A} (h1 : c a b = -1) (h2 : c b d ≠ 1) : c a d = -1 := by
  have h3 := h.2.2 a b d (by rw [h1]; decide) h2
  rcases h.1 a d with e | e | e
  · exfalso
    have h4 : c d a ≠ 1 := by
      rw [h.2.1 a d, e]
      decide
    have h5 := h.2.2 b d a h2 h4
    rw [h.2.1 a b, h1] at h5
    exact h5 (by decide)
  · exact absurd e h3
  · exact e
theorem q_POm {A : Type} {c : A → A → Int32} (h : q_PO c) {a b d : A} (h1 : c a b ≠ 1) (h2 : c b d = -1) : c a d = -1 := by
  have h3 := h.2.2 a b d h1 (by rw [h2]; decide)
  rcases h.1 a d with e | e | e
  · exfalso
    have h4 : c d a ≠ 1 := by
      rw [h.2.1 a d, e]
      decide
    have h5 := h.2.2 d a b h4 h1
    rw [h.2.1 b d, h2] at h5
    exact h5 (by decide)
  · exact absurd e h3
  · exact e
theorem q_PO0 {A : Type} {c : A → A → Int32} (h : q_PO c) {a b d : A} (h1 : c a b = 0) (h2 : c b d = 0) : c a d = 0 := by
  have n1 : c a b ≠ 1 := by rw [h1]; decide
  have n2 : c b d ≠ 1 := by rw [h2]; decide
  have m1 : c b a ≠ 1 := by rw [h.2.1 a b, h1]; decide
  have m2 : c d b ≠ 1 := by rw [h.2.1 b d, h2]; decide
  have a1 := h.2.2 a b d n1 n2
  have a2 := h.2.2 d b a m2 m1
  rw [h.2.1 a d] at a2
  rcases h.1 a d with e | e | e
  · exact e
  · exact absurd e a1
  · rw [e] at a2
    exact absurd rfl a2
def q_lx {A : Type} (c e : A → A → Int32) (a b : A) : Int32 := if c a b = 0 then e a b else c a b
theorem q_lxp {A : Type} {c e : A → A → Int32} (hc : q_PO c) (he : q_PO e) : q_PO (q_lx c e) := by
  refine ⟨?_, ?_, ?_⟩
  · intro a b
    unfold q_lx
    split
    · exact he.1 a b
    · exact hc.1 a b
  · intro a b
    unfold q_lx
    by_cases h : c a b = 0
    · have h2 : c b a = 0 := by rw [hc.2.1 a b, h]; decide
      rw [if_pos h, if_pos h2, he.2.1 a b]
    · have h2 : c b a ≠ 0 := by
        intro q
        have := hc.2.1 b a
        rw [q] at this
        exact h this
      rw [if_neg h, if_neg h2, hc.2.1 a b]
  · intro a b d
    unfold q_lx
    rcases hc.1 a b with h1 | h1 | h1
    · rw [if_pos h1]
      rcases hc.1 b d with h2 | h2 | h2
      · rw [if_pos h2, if_pos (q_PO0 hc h1 h2)]
        exact he.2.2 a b d
      · intro _ h3
        rw [if_neg (by rw [h2]; decide), h2] at h3
        exact absurd rfl h3
      · intro _ _
        have := q_POm hc (a := a) (b := b) (d := d) (by rw [h1]; decide) h2
        rw [if_neg (by rw [this]; decide), this]
        decide
    · intro h3
      rw [if_neg (by rw [h1]; decide), h1] at h3
      exact absurd rfl h3
    · intro _ h3
      have hbd : c b d ≠ 1 := by
        intro q
        rw [if_neg (by rw [q]; decide), q] at h3
        exact h3 rfl
      have := q_POl hc h1 hbd
      rw [if_neg (by rw [this]; decide), this]
      decide
/-- one after the other; what ends first is less -/
def q_ll {A : Type} (c : A → A → Int32) : List A → List A → Int32
  | [], [] => 0
  | [], _ :: _ => -1
  | _ :: _, [] => 1
  | x :: a, y :: b => if c x y = 0 then q_ll c a b else c x y
theorem q_llp {A : Type} {c : A → A → Int32} (hc : q_PO c) : q_PO (q_ll c) := by
  refine ⟨?_, ?_, ?_⟩
  · intro a
    induction a with
    | nil =>
      intro b
      cases b <;> simp [q_ll, q_s3]
    | cons x a ih =>
      intro b
      cases b with
      | nil => simp [q_ll, q_s3]
      | cons y b =>
        unfold q_ll
        split
        · exact ih b
        · exact hc.1 x y
  · intro a
    induction a with
    | nil =>
      intro b
      cases b with
      | nil => exact q_n0.symm
      | cons y b => exact q_nn1.symm
    | cons x a ih =>
      intro b
      cases b with
      | nil => rfl
      | cons y b =>
        show (if c y x = 0 then q_ll c b a else c y x) = -(if c x y = 0 then q_ll c a b else c x y)
        by_cases h : c x y = 0
        · have h2 : c y x = 0 := by rw [hc.2.1 x y, h]; decide
          rw [if_pos h, if_pos h2, ih b]
        · have h2 : c y x ≠ 0 := by
            intro q
            have := hc.2.1 y x
            rw [q] at this
            exact h this
          rw [if_neg h, if_neg h2, hc.2.1 x y]
  · intro a
    induction a with
    | nil =>
      intro b d _ _
      cases d with
      | nil => exact q_01
      | cons z d => exact q_m11
    | cons x a ih =>
      intro b d h1 h2
      cases b with
      | nil => exact absurd rfl h1
      | cons y b =>
        cases d with
        | nil => exact absurd rfl h2
        | cons z d =>
          replace h1 : (if c x y = 0 then q_ll c a b else c x y) ≠ 1 := h1
          replace h2 : (if c y z = 0 then q_ll c b d else c y z) ≠ 1 := h2
          show (if c x z = 0 then q_ll c a d else c x z) ≠ 1
          rcases hc.1 x y with e1 | e1 | e1
          · rw [if_pos e1] at h1
            rcases hc.1 y z with e2 | e2 | e2
            · rw [if_pos e2] at h2
              rw [if_pos (q_PO0 hc e1 e2)]
              exact ih b d h1 h2
            · rw [if_neg (by rw [e2]; decide), e2] at h2
              exact absurd rfl h2
            · have := q_POm hc (a := x) (b := y) (d := z) (by rw [e1]; decide) e2
              rw [if_neg (by rw [this]; decide), this]
              decide
          · rw [if_neg (by rw [e1]; decide), e1] at h1
            exact absurd rfl h1
          · have hbd : c y z ≠ 1 := by
              intro q
              rw [if_neg (by rw [q]; decide), q] at h2
              exact h2 rfl
            have := q_POl hc e1 hbd
            rw [if_neg (by rw [this]; decide), this]
            decide
def q_nc (a b : Nat) : Int32 := if a = b then 0 else if b ≤ a then 1 else -1
theorem q_ncp : q_PO q_nc := by
  refine ⟨?_, ?_, ?_⟩
  · intro a b
    unfold q_nc
    repeat' split
    all_goals simp [q_s3]
  · intro a b
    unfold q_nc
    by_cases h : a = b
    · rw [if_pos h, if_pos h.symm, q_n0]
    · rw [if_neg h, if_neg (fun q => h q.symm)]
      by_cases h2 : b ≤ a
      · rw [if_pos h2, if_neg (by omega)]
      · rw [if_neg h2, if_pos (by omega), q_nn1]
  · intro a b d h1 h2 h3
    unfold q_nc at *
    by_cases e : a = d
    · rw [if_pos e] at h3
      exact q_01 h3
    · rw [if_neg e] at h3
      by_cases e2 : d ≤ a
      · have : ¬ (b ≤ a ∧ a ≠ b) := by
          intro q
          rw [if_neg q.2, if_pos q.1] at h1
          exact h1 rfl
        have : ¬ (d ≤ b ∧ b ≠ d) := by
          intro q
          rw [if_neg q.2, if_pos q.1] at h2
          exact h2 rfl
        omega
      · rw [if_neg e2] at h3
        exact q_m11 h3
theorem q_POi {A B : Type} {c : B → B → Int32} (h : q_PO c) (f : A → B) : q_PO (fun a b => c (f a) (f b)) := ⟨fun a b => h.1 _ _, fun a b => h.2.1 _ _, fun a b d => h.2.2 _ _ _⟩
theorem q_obe (l m : List UInt8) : q_ob l m = q_ll (fun x y : UInt8 => q_nc x.toNat y.toNat) l m := by
  induction l generalizing m with
  | nil => cases m <;> rfl
  | cons x l ih =>
    cases m with
    | nil => rfl
    | cons y m =>
      show (if x = y then q_ob l m else if y.toNat ≤ x.toNat then 1 else -1) = if q_nc x.toNat y.toNat = 0 then q_ll (fun x y : UInt8 => q_nc x.toNat y.toNat) l m else q_nc x.toNat y.toNat
      by_cases e : x = y
      · have e2 : q_nc x.toNat y.toNat = 0 := if_pos (by rw [e])
        rw [if_pos e, ih m, if_pos e2]
      · have e2 : ¬ x.toNat = y.toNat := fun q => e (UInt8.toNat_inj.1 q)
        have e4 : q_nc x.toNat y.toNat = if y.toNat ≤ x.toNat then 1 else -1 := if_neg e2
        rw [if_neg e, e4]
        by_cases e3 : y.toNat ≤ x.toNat
        · rw [if_pos e3, if_neg q_10]
        · rw [if_neg e3, if_neg q_m10]
theorem q_obp : q_PO q_ob := by
  have : q_ob = q_ll (fun x y : UInt8 => q_nc x.toNat y.toNat) := by
    funext l m
    exact q_obe l m
  rw [this]
  exact q_llp (q_POi q_ncp (fun x : UInt8 => x.toNat))
theorem q_lgp : q_PO lg_cmp := by
  refine ⟨q_lc3, ?_, ?_⟩
  · intro a b
    unfold lg_cmp
    by_cases h : a = b
    · subst h
      have : ¬ a > a := Int64.lt_irrefl
      rw [if_neg this, if_pos rfl]
      rfl
    · by_cases h2 : a > b
      · have h3 : ¬ b > a := fun q => Int64.lt_asymm h2 q
        rw [if_pos h2, if_neg h3, if_neg (fun q => h q.symm)]
      · have h3 : b > a := by
          have := Int64.lt_iff_toInt_lt (x := b) (y := a)
          have h4 : ¬ b.toInt < a.toInt := fun q => h2 (this.2 q)
          have h5 : ¬ a.toInt = b.toInt := fun q => h (Int64.toInt_inj.1 q)
          exact Int64.lt_iff_toInt_lt.2 (by omega)
        rw [if_neg h2, if_neg h, if_pos h3]
        rfl
  · intro a b d h1 h2 h3
    have g : ∀ x y : Int64, lg_cmp x y = 1 ↔ y.toInt < x.toInt := by
      intro x y
      unfold lg_cmp
      by_cases q : x > y
      · rw [if_pos q]
        exact ⟨fun _ => Int64.lt_iff_toInt_lt.1 q, fun _ => rfl⟩
      · rw [if_neg q]
        have q2 : ¬ y.toInt < x.toInt := fun z => q (Int64.lt_iff_toInt_lt.2 z)
        constructor
        · intro z
          split at z
          · exact absurd z q_01
          · exact absurd z q_m11
        · intro z
          exact absurd z q2
    rw [g] at h3
    have n1 : ¬ b.toInt < a.toInt := fun q => h1 ((g a b).2 q)
    have n2 : ¬ d.toInt < b.toInt := fun q => h2 ((g b d).2 q)
    omega
theorem q_zp {A : Type} : q_PO (fun (_ _ : A) => (0 : Int32)) := ⟨fun _ _ => Or.inl rfl, fun _ _ => q_n0.symm, fun _ _ _ _ _ => q_01⟩
/-- a value: kind and bytes -/
abbrev q_V : Type := UInt8 × List UInt8
/-- an element by the class of its value, its name, its value -/
def q_pe (f : q_V → q_V → Int32) (nm : Bool) (x y : q_P) : Int32 :=
  q_lx (fun (x y : q_P) => q_nc (q_cl x.1) (q_cl y.1)) (q_lx (fun (x y : q_P) => if nm = true then q_ob x.2.1 y.2.1 else 0) (fun (x y : q_P) => f (x.1, x.2.2) (y.1, y.2.2))) x y
theorem q_pep {f : q_V → q_V → Int32} (h : q_PO f) (nm : Bool) : q_PO (q_pe f nm) := by
  unfold q_pe
  refine q_lxp (q_POi q_ncp (fun x : q_P => q_cl x.1)) (q_lxp ?_ (q_POi h (fun x : q_P => (x.1, x.2.2))))
  cases nm with
  | true => exact q_POi q_obp (fun x : q_P => x.2.1)
  | false => exact q_zp
theorem q_ole (f : UInt8 → List UInt8 → UInt8 → List UInt8 → Int32) (nm : Bool) (ps qs : List q_P) : q_ol f nm ps qs = q_ll (q_pe (fun a b => f a.1 a.2 b.1 b.2) nm) ps qs := by
  induction ps generalizing qs with
  | nil => cases qs <;> rfl
  | cons x a ih =>
    cases qs with
    | nil => rfl
    | cons y c =>
      rw [q_olc]
      show _ = if q_pe (fun a b => f a.1 a.2 b.1 b.2) nm x y = 0 then q_ll (q_pe (fun a b => f a.1 a.2 b.1 b.2) nm) a c else q_pe (fun a b => f a.1 a.2 b.1 b.2) nm x y
      rw [← ih c]
      unfold q_pe q_lx q_nc
      by_cases u1 : q_cl x.1 = q_cl y.1
      · rw [if_pos u1]
        simp only [u1, if_true]
        cases nm with
        | false => simp
        | true =>
          by_cases u2 : q_ob x.2.1 y.2.1 = 0 <;> simp [u2]
      · rw [if_neg u1]
        simp only [u1, if_false]
        by_cases u3 : q_cl y.1 ≤ q_cl x.1 <;> simp [u3]
theorem q_o1p {g : Bool → List q_P → List q_P → Int32} (hg : ∀ nm, q_PO (g nm)) : q_PO (fun a b : q_V => q_o1 g a.1 a.2 b.1 b.2) := by
  refine ⟨fun a b => q_o13 (fun nm ps qs => (hg nm).1 ps qs) _ _ _ _, ?_, ?_⟩
  · intro a b
    show q_o1 g b.1 b.2 a.1 a.2 = -(q_o1 g a.1 a.2 b.1 b.2)
    unfold q_o1
    by_cases u1 : q_cl a.1 = q_cl b.1
    · rw [if_pos u1, if_pos u1.symm, u1]
      split
      · exact q_lgp.2.1 _ _
      · split
        · exact q_obp.2.1 _ _
        · split
          · exact (hg true).2.1 _ _
          · split
            · exact (hg false).2.1 _ _
            · rfl
    · rw [if_neg u1, if_neg (fun q => u1 q.symm)]
      by_cases u3 : q_cl b.1 ≤ q_cl a.1
      · rw [if_pos u3, if_neg (by omega)]
      · rw [if_neg u3, if_pos (by omega)]
        rfl
  · intro a b d
    show q_o1 g a.1 a.2 b.1 b.2 ≠ 1 → q_o1 g b.1 b.2 d.1 d.2 ≠ 1 → q_o1 g a.1 a.2 d.1 d.2 ≠ 1
    unfold q_o1
    by_cases u1 : q_cl a.1 = q_cl b.1
    · rw [if_pos u1]
      by_cases u2 : q_cl b.1 = q_cl d.1
      · rw [if_pos u2, if_pos (u1.trans u2), u1]
        split
        · exact q_lgp.2.2 _ _ _
        · split
          · exact q_obp.2.2 _ _ _
          · split
            · exact (hg true).2.2 _ _ _
            · split
              · exact (hg false).2.2 _ _ _
              · exact fun _ _ => q_01
      · rw [if_neg u2, if_neg (fun q => u2 (u1.symm.trans q))]
        intro _ h2
        rw [u1]
        exact h2
    · rw [if_neg u1]
      intro h1 h2
      have l1 : ¬ q_cl b.1 ≤ q_cl a.1 := by
        intro q
        rw [if_pos q] at h1
        exact h1 rfl
      have l2 : q_cl b.1 ≤ q_cl d.1 := by
        by_cases u2 : q_cl b.1 = q_cl d.1
        · omega
        · rw [if_neg u2] at h2
          by_cases q : q_cl d.1 ≤ q_cl b.1
          · rw [if_pos q] at h2
            exact absurd rfl h2
          · omega
      rw [if_neg (by omega), if_neg (by omega)]
      exact q_m11
def q_ov2 (d : Nat) (a b : q_V) : Int32 := q_ov d a.1 a.2 b.1 b.2
theorem q_ovp (d : Nat) : q_PO (q_ov2 d) := by
  induction d with
  | zero => exact q_o1p (fun nm => q_zp)
  | succ d ih =>
    refine q_o1p (g := fun nm ps qs => q_ol (q_ov d) nm ps qs) (fun nm => ?_)
    have : (fun ps qs => q_ol (q_ov d) nm ps qs) = q_ll (q_pe (q_ov2 d) nm) := by
      funext ps qs
      exact q_ole (q_ov d) nm ps qs
    show q_PO (fun ps qs => q_ol (q_ov d) nm ps qs)
    rw [this]
    exact q_llp (q_pep ih nm)
