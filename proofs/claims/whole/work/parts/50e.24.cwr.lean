/-! the pure part: what the class writes -/
abbrev q_T : Type := Nat × Bool × (Nat → UInt8)
def q_C (L t : Nat) (o : Bool) (b : Nat → UInt8) (w : List UInt8) (r : q_T) : Prop :=
  (∀ j, j < t ∨ L ≤ j → r.2.2 j = b j) ∧ t ≤ r.1 ∧ r.1 ≤ L ∧ (o = false ∧ t + w.length ≤ L → r.1 = t + w.length ∧ r.2.1 = false ∧ sb r.2.2 t w) ∧ (¬ (o = false ∧ t + w.length ≤ L) → r.2.1 = true)
def q_e4 (L : Nat) (r : q_T) : Int32 × Int32 × Bool × (Nat → UInt8) := (iN r.1, iN L, r.2.1, r.2.2)
theorem q_t4e {Z : Type} (L : Nat) (r : q_T) (f : Int32 → Int32 → Bool → (Nat → UInt8) → Z) : tp4 (q_e4 L r) f = f (iN r.1) (iN L) r.2.1 r.2.2 := rfl
theorem q_Ca {L t : Nat} {o : Bool} {b : Nat → UInt8} {w1 w2 : List UInt8} {r1 r2 : q_T} (h1 : q_C L t o b w1 r1) (h2 : q_C L r1.1 r1.2.1 r1.2.2 w2 r2) : q_C L t o b (w1 ++ w2) r2 := by
  obtain ⟨a1, a2, a3, a4, a5⟩ := h1
  obtain ⟨b1, b2, b3, b4, b5⟩ := h2
  refine ⟨?_, by omega, b3, ?_, ?_⟩
  · intro j hj
    rw [b1 j (by omega), a1 j hj]
  · intro hc
    rw [List.length_append] at hc ⊢
    obtain ⟨c1, c2, c3⟩ := a4 ⟨hc.1, by omega⟩
    obtain ⟨d1, d2, d3⟩ := b4 ⟨c2, by omega⟩
    refine ⟨by omega, d2, sb_ap.2 ⟨?_, ?_⟩⟩
    · refine sb_fr c3 (fun j h1 h2 => b1 j (by omega))
    · rw [← c1]
      exact d3
  · intro hc
    rw [List.length_append] at hc
    by_cases q : o = false ∧ t + w1.length ≤ L
    · obtain ⟨c1, c2, c3⟩ := a4 q
      refine b5 (fun z => hc ⟨q.1, by omega⟩)
    · have := a5 q
      refine b5 (fun z => ?_)
      rw [this] at z
      cases z.1
theorem q_C0 {L t : Nat} {o : Bool} {b : Nat → UInt8} (ht : t ≤ L) : q_C L t o b [] (t, o, b) := by
  refine ⟨fun _ _ => rfl, Nat.le_refl _, ht, fun q => ⟨rfl, q.1, trivial⟩, fun q => ?_⟩
  cases o with
  | true => rfl
  | false => exact absurd ⟨rfl, by simpa using ht⟩ q
/-- the lowest byte of a number -/
def q_by (x : Int32) : UInt8 := x.toInt8.toUInt8
theorem q_byn (y : UInt8) : q_by (iN y.toNat) = y := q_all (P := fun y => q_by (iN y.toNat) = y) (by decide +kernel) y
theorem q_byw (x : Int32) : x.toInt8.toInt32.toInt8.toUInt8 = q_by x := by
  unfold q_by
  rw [Int8.toInt8_toInt32]
theorem c_oc {L t : Nat} {o : Bool} {b : Nat → UInt8} {x : Int32} (ht : t ≤ L) (hL : L ≤ 202000) : ∃ r, tw_WR_octet (iN t) (iN L) o b x = q_e4 L r ∧ q_C L t o b [q_by x] r := by
  unfold tw_WR_octet
  simp (disch := omega) only [i_0, i_1, iN_a, iN_c, iN_le, iN_lt, iN_eq, iN_i]
  cases o with
  | true =>
    refine ⟨(t, true, b), by rw [if_neg (by decide)]; rfl, fun _ _ => rfl, Nat.le_refl _, ht, (fun q => by cases q.1), fun _ => rfl⟩
  | false =>
    rw [if_pos (show b2i false = iN 0 from rfl)]
    by_cases c : t < L
    · refine ⟨(t + 1, false, ub b t x.toInt8.toInt32), by rw [if_pos c]; rfl, ?_, by show t ≤ t + 1; omega, by show t + 1 ≤ L; omega, ?_, ?_⟩
      · intro j hj
        show (if j = t then _ else b j) = b j
        rw [if_neg (by omega)]
      · intro _
        refine ⟨rfl, rfl, ?_, trivial⟩
        show (if t = t then _ else _) = _
        rw [if_pos rfl, q_byw]
      · intro q
        exact absurd ⟨rfl, by show t + 1 ≤ L; omega⟩ q
    · refine ⟨(t, true, b), by rw [if_neg c]; rfl, fun _ _ => rfl, Nat.le_refl _, ht, fun q => ?_, fun _ => rfl⟩
      have : t + 1 ≤ L := q.2
      omega
theorem c_cp {L t a : Nat} {o : Bool} {b : Nat → UInt8} {l : List UInt8} (ht : t ≤ L) (hL : L ≤ 202000) (h : sb b a l) (ha : a + l.length ≤ 202000) : ∃ r, tw_WR_copy (iN t) (iN L) o b (iN a) (iN (a + l.length)) = q_e4 L r ∧ q_C L t o b l r := by
  unfold tw_WR_copy
  simp (disch := omega) only [i_0, i_202000, iN_a, iN_c, iN_le, iN_lt, iN_eq, iN_i, iN_s]
  cases o with
  | true =>
    refine ⟨(t, true, b), by rw [if_neg (by decide)]; rfl, fun _ _ => rfl, Nat.le_refl _, ht, (fun q => by cases q.1), fun _ => rfl⟩
  | false =>
    rw [if_pos (show b2i false = iN 0 from rfl), if_neg (by omega), if_neg (by omega), if_neg (by omega), show a + l.length - a = l.length by omega]
    by_cases c : l.length ≤ L - t
    · refine ⟨(t + l.length, false, va_cpy b b a t l.length), by rw [if_pos c]; rfl, ?_, by show t ≤ t + l.length; omega, by show t + l.length ≤ L; omega, ?_, ?_⟩
      · intro j hj
        show (if t ≤ j ∧ j < t + l.length then _ else b j) = b j
        rw [if_neg (by omega)]
      · intro _
        refine ⟨rfl, rfl, sb_of (fun i hi => ?_)⟩
        show (if t ≤ t + i ∧ t + i < t + l.length then b (a + (t + i - t)) else b (t + i)) = _
        rw [if_pos ⟨by omega, by omega⟩, show t + i - t = i by omega, sb_g h hi]
      · intro q
        exact absurd ⟨rfl, by omega⟩ q
    · refine ⟨(t, true, b), by rw [if_neg c]; rfl, fun _ _ => rfl, Nat.le_refl _, ht, (fun q => absurd q.2 (by omega)), fun _ => rfl⟩
theorem c_op {L t : Nat} {o : Bool} {b : Nat → UInt8} (ht : t ≤ L) (hL : L ≤ 202000) : ∃ r, tw_WR_open (iN t) (iN L) o b = (iN t, iN r.1, iN L, r.2.1, r.2.2) ∧ q_C L t o b [0, 0, 0, 0] r := by
  have step : ∀ (x1 : Int32) (k n u : Nat) (o : Bool) (b : Nat → UInt8), k < 4 → u ≤ L → ∃ r, tw_WR_open_h7 x1 (n + 1) (iN k) (iN u) (iN L) o b = tw_WR_open_h7 x1 n (iN (k + 1)) (iN r.1) (iN L) r.2.1 r.2.2 ∧ q_C L u o b [0] r := by
    intro x1 k n u o b hk hu
    obtain ⟨r, r1, r2⟩ := c_oc (o := o) (b := b) (x := 0) hu hL
    refine ⟨r, ?_, r2⟩
    conv => lhs; unfold tw_WR_open_h7
    rw [if_neg (by simp (disch := omega) only [i_4, iN_a, iN_c, iN_le, iN_lt, iN_eq, iN_i]; omega), r1, show iN k + 1 = iN (k + 1) from iN_a k 1]
    rfl
  unfold tw_WR_open
  rw [show (((4 : Int32).toInt - (0 : Int32).toInt).toNat + 1) = 4 + 1 from rfl, show (0 : Int32) = iN 0 from rfl]
  obtain ⟨r1, e1, c1⟩ := step (iN t) 0 4 t o b (by omega) ht
  obtain ⟨r2, e2, c2⟩ := step (iN t) 1 3 r1.1 r1.2.1 r1.2.2 (by omega) c1.2.2.1
  obtain ⟨r3, e3, c3⟩ := step (iN t) 2 2 r2.1 r2.2.1 r2.2.2 (by omega) c2.2.2.1
  obtain ⟨r4, e4, c4⟩ := step (iN t) 3 1 r3.1 r3.2.1 r3.2.2 (by omega) c3.2.2.1
  rw [e1, e2, e3, e4]
  refine ⟨r4, ?_, q_Ca (q_Ca (q_Ca c1 c2) c3) c4⟩
  unfold tw_WR_open_h7
  rw [if_pos (show (4 : Int32) ≤ iN (3 + 1) by decide)]
/-- a size's four bytes -/
theorem c_b4 (n : Nat) (h : n < 2147483648) : ∀ i, i < 4 → q_by (iN n >>> ((8 * iN i) &&& 31)) = (q_l4 n).getD i 0 := by
  intro i hi
  have e := r_b4 n h i hi
  have g : ∀ x : Int32, q_by x = q_by (x &&& 255) := by
    intro x
    unfold q_by
    apply UInt8.toBitVec_inj.1
    show (x.toBitVec.signExtend 8) = ((x.toBitVec &&& (255 : Int32).toBitVec).signExtend 8)
    apply BitVec.eq_of_toNat_eq
    rw [BitVec.signExtend_eq_setWidth_of_le _ (by omega), BitVec.signExtend_eq_setWidth_of_le _ (by omega), BitVec.toNat_setWidth, BitVec.toNat_setWidth, BitVec.toNat_and]
    show _ = (x.toBitVec.toNat &&& (2 ^ 8 - 1)) % 2 ^ 8
    rw [Nat.and_two_pow_sub_one_eq_mod]
    omega
  rw [g, e, q_byn]
theorem c_rs {L t a n : Nat} {b : Nat → UInt8} (hL : L ≤ 202000) (ht : t ≤ L) (ha : a + 4 ≤ L) (hn : n < 2147483648) : ∃ b', tw_WR_resize (iN t) (iN L) false b (iN a) (iN n) = (iN t, iN L, false, b') ∧ sb b' a (q_l4 n) ∧ ∀ j, j < a ∨ a + 4 ≤ j → b' j = b j := by
  have step : ∀ (k m : Nat) (b : Nat → UInt8), k < 4 → tw_WR_resize_h24 (iN a) (iN n) (m + 1) (iN k) (iN t) (iN L) false b = tw_WR_resize_h24 (iN a) (iN n) m (iN (k + 1)) (iN t) (iN L) false (fun j => if j = a + k then (q_l4 n).getD k 0 else b j) := by
    intro k m b hk
    conv => lhs; unfold tw_WR_resize_h24
    rw [if_neg (by simp (disch := omega) only [i_4, iN_a, iN_c, iN_le, iN_lt, iN_eq, iN_i]; omega), show iN a + iN k = iN (a + k) from iN_a a k, iN_c (by omega), show iN k + 1 = iN (k + 1) from iN_a k 1]
    have e : ub b (a + k) ((iN n >>> ((8 * iN k) &&& 31)).toInt8.toInt32) = fun j => if j = a + k then (q_l4 n).getD k 0 else b j := by
      funext j
      show (if j = a + k then _ else b j) = _
      rw [q_byw, c_b4 n hn k hk]
    rw [e]
  unfold tw_WR_resize
  rw [if_pos (show b2i false = 0 from rfl), if_neg (by simp (disch := omega) only [i_0, iN_a, iN_c, iN_le, iN_lt, iN_eq, iN_i]; omega), if_pos (by rw [i_4, iN_s (by omega), iN_le (by omega) (by omega)]; omega)]
  rw [show (((4 : Int32).toInt - (0 : Int32).toInt).toNat + 1) = 4 + 1 from rfl, show (0 : Int32) = iN 0 from rfl, step 0 4 _ (by omega), step 1 3 _ (by omega), step 2 2 _ (by omega), step 3 1 _ (by omega)]
  unfold tw_WR_resize_h24
  rw [if_pos (show (4 : Int32) ≤ iN (3 + 1) by decide)]
  refine ⟨_, rfl, ?_, ?_⟩
  · unfold q_l4
    refine ⟨?_, ?_, ?_, ?_, trivial⟩
    · dsimp only
      rw [if_neg (by omega), if_neg (by omega), if_neg (by omega), if_pos (by omega)]
      rfl
    · dsimp only
      rw [if_neg (by omega), if_neg (by omega), if_pos (by omega)]
      rfl
    · dsimp only
      rw [if_neg (by omega), if_pos (by omega)]
      rfl
    · dsimp only
      rw [if_pos (by omega)]
      rfl
  · intro j hj
    rw [if_neg (by omega), if_neg (by omega), if_neg (by omega), if_neg (by omega)]
theorem c_cls {L t : Nat} {o : Bool} {b : Nat → UInt8} {w : List UInt8} {r : q_T} (hL : L ≤ 202000) (h : q_C L t o b ([0, 0, 0, 0] ++ w) r) :
    ∃ r', tw_WR_close (iN r.1) (iN L) r.2.1 r.2.2 (iN t) = q_e4 L r' ∧ q_C L t o b (q_l4 (w.length + 5) ++ (w ++ [0])) r' := by
  obtain ⟨s, s1, s2⟩ := c_oc (L := L) (t := r.1) (o := r.2.1) (b := r.2.2) (x := 0) h.2.2.1 hL
  have W := q_Ca h s2
  obtain ⟨w1, w2, w3, w4, w5⟩ := W
  have ll : (([0, 0, 0, 0] ++ w) ++ [q_by 0]).length = (q_l4 (w.length + 5) ++ (w ++ [0])).length := by
    simp [q_l4]
  have l5 : (q_l4 (w.length + 5) ++ (w ++ [0])).length = w.length + 5 := by
    simp [q_l4]
  unfold tw_WR_close
  rw [s1, q_t4e]
  by_cases c : o = false ∧ t + (([0, 0, 0, 0] ++ w) ++ [q_by 0]).length ≤ L
  · obtain ⟨c1, c2, c3⟩ := w4 c
    rw [ll, l5] at c1 c
    obtain ⟨b', t1, t2, t3⟩ := c_rs (L := L) (t := s.1) (a := t) (n := w.length + 5) (b := s.2.2) hL w3 (by omega) (by omega)
    rw [c2, iN_s (by omega), show s.1 - t = w.length + 5 by omega, t1]
    refine ⟨(s.1, false, b'), rfl, ?_, w2, w3, ?_, ?_⟩
    · intro j hj
      show b' j = b j
      rw [t3 j (by omega), w1 j hj]
    · intro _
      rw [l5]
      refine ⟨c1, rfl, sb_ap.2 ⟨t2, ?_⟩⟩
      rw [q_l4l]
      rw [List.append_assoc] at c3
      have := (sb_ap.1 c3).2
      exact sb_fr this (fun j h1 h2 => t3 j (Or.inr h1))
    · intro q
      rw [l5] at q
      exact absurd c q
  · have so := w5 c
    have : tw_WR_resize (iN s.1) (iN L) s.2.1 s.2.2 (iN t) (iN s.1 - iN t) = (iN s.1, iN L, s.2.1, s.2.2) := by
      unfold tw_WR_resize
      rw [so, if_neg (by decide)]
    rw [this]
    refine ⟨s, rfl, w1, w2, w3, ?_, fun _ => so⟩
    intro q
    rw [← ll] at q
    exact absurd q c
theorem c_nm {L t a : Nat} {o : Bool} {b : Nat → UInt8} {k : UInt8} {l : List UInt8} (ht : t ≤ L) (hL : L ≤ 202000) (h : sb b a l) (ha : a + l.length ≤ 202000) (hd : a + l.length ≤ t ∨ L ≤ a) : ∃ r, tw_WR_name (iN t) (iN L) o b (iN k.toNat) (iN a) (iN (a + l.length)) = q_e4 L r ∧ q_C L t o b (k :: (l ++ [0])) r := by
  obtain ⟨r1, e1, c1⟩ := c_oc (o := o) (b := b) (x := iN k.toNat) ht hL
  rw [q_byn] at c1
  obtain ⟨r2, e2, c2⟩ := c_cp (L := L) (t := r1.1) (o := r1.2.1) (b := r1.2.2) (a := a) (l := l) c1.2.2.1 hL (sb_fr h (fun j h1 h2 => c1.1 j (by omega))) ha
  obtain ⟨r3, e3, c3⟩ := c_oc (L := L) (t := r2.1) (o := r2.2.1) (b := r2.2.2) (x := 0) c2.2.2.1 hL
  refine ⟨r3, ?_, ?_⟩
  · unfold tw_WR_name
    rw [e1, q_t4e, e2, q_t4e, e3]
    rfl
  · have := q_Ca (q_Ca c1 c2) c3
    exact this
theorem c_ix {L t v : Nat} {o : Bool} {b : Nat → UInt8} {k : UInt8} (hv : v < 1000) (ht : t ≤ L) (hL : L ≤ 202000) : ∃ r, tw_WR_index (iN t) (iN L) o b (iN k.toNat) (iN v) = q_e4 L r ∧ q_C L t o b (k :: (q_dg v ++ [0])) r := by
  obtain ⟨r1, e1, c1⟩ := c_oc (o := o) (b := b) (x := iN k.toNat) ht hL
  rw [q_byn] at c1
  have dv : ∀ u : Nat, 0 < u → u < 2147483648 → iN v / iN u = iN (v / u) := fun u h1 h2 => (Int32.ofNat_div (by omega) (by omega)).symm
  have fin : ∀ (n t : Nat) (o : Bool) (b : Nat → UInt8), t ≤ L → ∃ r, tw_WR_index_h9 (iN v) (n + 1) (iN 0) (iN t) (iN L) o b = q_e4 L r ∧ q_C L t o b [0] r := by
    intro n t o b ht
    obtain ⟨r, e, c⟩ := c_oc (o := o) (b := b) (x := 0) ht hL
    refine ⟨r, ?_, c⟩
    unfold tw_WR_index_h9
    rw [if_pos q_le0, e]
    rfl
  have put : ∀ (u n t : Nat) (o : Bool) (b : Nat → UInt8), 0 < u → u < 2000 → (u ≤ v ∨ u = 1) → t ≤ L → ∃ r, tw_WR_index_h9 (iN v) (n + 1) (iN u) (iN t) (iN L) o b = tw_WR_index_h9 (iN v) n (iN (u / 10)) (iN r.1) (iN L) r.2.1 r.2.2 ∧ q_C L t o b [UInt8.ofNat (48 + v / u % 10)] r := by
    intro u n t o b h0 h1 h2 ht
    obtain ⟨r, e, c⟩ := c_oc (o := o) (b := b) (x := iN (UInt8.ofNat (48 + v / u % 10)).toNat) ht hL
    rw [q_byn] at c
    have vd : v / u ≤ v := Nat.div_le_self _ _
    have ex : (48 : Int32) + (iN v / iN u - iN v / iN u / 10 * 10) = iN (UInt8.ofNat (48 + v / u % 10)).toNat := by
      rw [show (48 : Int32) = iN 48 from rfl, show (10 : Int32) = iN 10 from rfl, dv u h0 (by omega), r_dg (by omega), UInt8.toNat_ofNat']
      exact congrArg iN (by omega)
    have eu : iN u / 10 = iN (u / 10) := (Int32.ofNat_div (a := u) (b := 10) (by omega) (by omega)).symm
    refine ⟨r, ?_, c⟩
    conv => lhs; unfold tw_WR_index_h9
    rw [if_neg (by simp (disch := omega) only [i_0, iN_a, iN_c, iN_le, iN_lt, iN_eq, iN_i]; omega), ex, e, eu]
    by_cases q : u ≤ v
    · rw [if_pos (by simp (disch := omega) only [iN_a, iN_c, iN_le, iN_lt, iN_eq, iN_i]; exact q)]
      rfl
    · have u1 : u = 1 := by omega
      rw [if_neg (by simp (disch := omega) only [iN_a, iN_c, iN_le, iN_lt, iN_eq, iN_i]; exact q), if_pos (by rw [u1]; rfl)]
      rfl
  have skip : ∀ (u n : Nat) (t L' : Int32) (o : Bool) (b : Nat → UInt8), 1 < u → u < 2000 → v < u → tw_WR_index_h9 (iN v) (n + 1) (iN u) t L' o b = tw_WR_index_h9 (iN v) n (iN (u / 10)) t L' o b := by
    intro u n t L' o b h0 h1 h2
    have eu : iN u / 10 = iN (u / 10) := (Int32.ofNat_div (a := u) (b := 10) (by omega) (by omega)).symm
    conv => lhs; unfold tw_WR_index_h9
    rw [if_neg (by simp (disch := omega) only [i_0, iN_a, iN_c, iN_le, iN_lt, iN_eq, iN_i]; omega), if_neg (by simp (disch := omega) only [iN_a, iN_c, iN_le, iN_lt, iN_eq, iN_i]; omega), if_neg (by simp (disch := omega) only [i_1, iN_a, iN_c, iN_le, iN_lt, iN_eq, iN_i]; omega), eu]
  have key : ∀ N : Nat, ∃ r, tw_WR_index_h9 (iN v) (N + 1 + 1 + 1 + 1 + 1) (iN 1000) (iN r1.1) (iN L) r1.2.1 r1.2.2 = q_e4 L r ∧ q_C L r1.1 r1.2.1 r1.2.2 (q_dg v ++ [0]) r := by
    intro N
    rw [skip 1000 (N + 1 + 1 + 1 + 1) _ _ _ _ (by omega) (by omega) (by omega)]
    by_cases v1 : v < 10
    · rw [skip (1000 / 10) (N + 1 + 1 + 1) _ _ _ _ (by omega) (by omega) (by omega), skip (1000 / 10 / 10) (N + 1 + 1) _ _ _ _ (by omega) (by omega) (by omega)]
      obtain ⟨r2, e2, c2⟩ := put (1000 / 10 / 10 / 10) (N + 1) r1.1 r1.2.1 r1.2.2 (by omega) (by omega) (Or.inr rfl) c1.2.2.1
      obtain ⟨r3, e3, c3⟩ := fin N r2.1 r2.2.1 r2.2.2 c2.2.2.1
      refine ⟨r3, e2.trans e3, ?_⟩
      have e : q_dg v ++ [0] = [UInt8.ofNat (48 + v / (1000 / 10 / 10 / 10) % 10)] ++ [0] := by
        unfold q_dg
        rw [if_pos v1, show v / (1000 / 10 / 10 / 10) % 10 = v by omega]
      rw [e]
      exact q_Ca c2 c3
    · by_cases v2 : v < 100
      · rw [skip (1000 / 10) (N + 1 + 1 + 1) _ _ _ _ (by omega) (by omega) (by omega)]
        obtain ⟨r2, e2, c2⟩ := put (1000 / 10 / 10) (N + 1 + 1) r1.1 r1.2.1 r1.2.2 (by omega) (by omega) (Or.inl (by omega)) c1.2.2.1
        obtain ⟨r3, e3, c3⟩ := put (1000 / 10 / 10 / 10) (N + 1) r2.1 r2.2.1 r2.2.2 (by omega) (by omega) (Or.inr rfl) c2.2.2.1
        obtain ⟨r4, e4, c4⟩ := fin N r3.1 r3.2.1 r3.2.2 c3.2.2.1
        refine ⟨r4, e2.trans (e3.trans e4), ?_⟩
        have e : q_dg v ++ [0] = ([UInt8.ofNat (48 + v / (1000 / 10 / 10) % 10)] ++ [UInt8.ofNat (48 + v / (1000 / 10 / 10 / 10) % 10)]) ++ [0] := by
          unfold q_dg
          rw [if_neg v1, if_pos v2, show v / (1000 / 10 / 10) % 10 = v / 10 by omega, show v / (1000 / 10 / 10 / 10) % 10 = v % 10 by omega]
          rfl
        rw [e]
        exact q_Ca (q_Ca c2 c3) c4
      · obtain ⟨r2, e2, c2⟩ := put (1000 / 10) (N + 1 + 1 + 1) r1.1 r1.2.1 r1.2.2 (by omega) (by omega) (Or.inl (by omega)) c1.2.2.1
        obtain ⟨r3, e3, c3⟩ := put (1000 / 10 / 10) (N + 1 + 1) r2.1 r2.2.1 r2.2.2 (by omega) (by omega) (Or.inl (by omega)) c2.2.2.1
        obtain ⟨r4, e4, c4⟩ := put (1000 / 10 / 10 / 10) (N + 1) r3.1 r3.2.1 r3.2.2 (by omega) (by omega) (Or.inr rfl) c3.2.2.1
        obtain ⟨r5, e5, c5⟩ := fin N r4.1 r4.2.1 r4.2.2 c4.2.2.1
        refine ⟨r5, e2.trans (e3.trans (e4.trans e5)), ?_⟩
        have e : q_dg v ++ [0] = (([UInt8.ofNat (48 + v / (1000 / 10) % 10)] ++ [UInt8.ofNat (48 + v / (1000 / 10 / 10) % 10)]) ++ [UInt8.ofNat (48 + v / (1000 / 10 / 10 / 10) % 10)]) ++ [0] := by
          unfold q_dg
          rw [if_neg v1, if_neg v2, show v / (1000 / 10) % 10 = v / 100 by omega, show v / (1000 / 10 / 10) % 10 = v / 10 % 10 by omega, show v / (1000 / 10 / 10 / 10) % 10 = v % 10 by omega]
          rfl
        rw [e]
        exact q_Ca (q_Ca (q_Ca c2 c3) c4) c5
  obtain ⟨r, e, c⟩ := key 996
  refine ⟨r, ?_, ?_⟩
  · have fe : ((1000 : Int32).toInt.toNat + 1) = 996 + 1 + 1 + 1 + 1 + 1 := by decide
    unfold tw_WR_index
    rw [e1, fe, q_tp4, i_1000]
    exact e
  · exact q_Ca c1 c
