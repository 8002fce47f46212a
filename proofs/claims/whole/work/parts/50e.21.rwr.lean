/-! the pure part: what the reference writes -/
abbrev q_R : Type := Nat × Bool × (Nat → Int32)
def q_W (g m t : Nat) (o : Bool) (st : Nat → Int32) (w : List UInt8) (r : q_R) : Prop :=
  (∀ j, j < t ∨ g + m ≤ j → r.2.2 j = st j) ∧ t ≤ r.1 ∧ r.1 ≤ g + m ∧ (o = false ∧ t + w.length ≤ g + m → r.1 = t + w.length ∧ r.2.1 = false ∧ sm r.2.2 t w) ∧ (¬ (o = false ∧ t + w.length ≤ g + m) → r.2.1 = true)
def q_e3 (r : q_R) : Option (Int32 × Bool × (Nat → Int32)) := some (iN r.1, r.2.1, r.2.2)
theorem q_Wa {g m t : Nat} {o : Bool} {st : Nat → Int32} {w1 w2 : List UInt8} {r1 r2 : q_R} (h1 : q_W g m t o st w1 r1) (h2 : q_W g m r1.1 r1.2.1 r1.2.2 w2 r2) : q_W g m t o st (w1 ++ w2) r2 := by
  obtain ⟨a1, a2, a3, a4, a5⟩ := h1
  obtain ⟨b1, b2, b3, b4, b5⟩ := h2
  refine ⟨?_, by omega, b3, ?_, ?_⟩
  · intro j hj
    rw [b1 j (by omega), a1 j hj]
  · intro hc
    rw [List.length_append] at hc ⊢
    obtain ⟨c1, c2, c3⟩ := a4 ⟨hc.1, by omega⟩
    obtain ⟨d1, d2, d3⟩ := b4 ⟨c2, by omega⟩
    refine ⟨by omega, d2, sm_ap.2 ⟨?_, ?_⟩⟩
    · refine sm_fr c3 (fun j h1 h2 => b1 j (by omega))
    · rw [← c1]
      exact d3
  · intro hc
    rw [List.length_append] at hc
    by_cases q : o = false ∧ t + w1.length ≤ g + m
    · obtain ⟨c1, c2, c3⟩ := a4 q
      refine b5 (fun z => hc ⟨q.1, by omega⟩)
    · have := a5 q
      refine b5 (fun z => ?_)
      rw [this] at z
      cases z.1
theorem q_W0 {g m t : Nat} {o : Bool} {st : Nat → Int32} (ht : g ≤ t) (ht2 : t ≤ g + m) : q_W g m t o st [] (t, o, st) := by
  refine ⟨fun _ _ => rfl, Nat.le_refl _, ht2, fun q => ⟨rfl, q.1, trivial⟩, fun q => ?_⟩
  cases o with
  | true => rfl
  | false => exact absurd ⟨rfl, by simpa using ht2⟩ q
theorem r_wr {fu g m t : Nat} {o : Bool} {st : Nat → Int32} {y : UInt8} (ht : g ≤ t) (ht2 : t ≤ g + m) (hg : g + m ≤ 136400) : ∃ r, tw_MO_write fu (iN g) (iN m) (iN t) o st (iN y.toNat) = q_e3 r ∧ q_W g m t o st [y] r := by
  unfold tw_MO_write
  simp (disch := omega) only [i_0, i_1, i_136400, iN_a, iN_c, iN_le, iN_lt, iN_eq, iN_i, iN_s]
  cases o with
  | true =>
    refine ⟨(t, true, st), by rw [if_neg (by decide)]; rfl, fun _ _ => rfl, Nat.le_refl _, ht2, (fun q => by cases q.1), fun _ => rfl⟩
  | false =>
    rw [if_pos (show b2i false = iN 0 from rfl)]
    by_cases c : t - g < m
    · refine ⟨(t + 1, false, upd st t (iN y.toNat)), by rw [if_pos c, if_pos ⟨by omega, by omega⟩]; rfl, ?_, by show t ≤ t + 1; omega, by show t + 1 ≤ g + m; omega, ?_, ?_⟩
      · intro j hj
        show (if j = t then _ else st j) = st j
        rw [if_neg (by omega)]
      · intro _
        refine ⟨rfl, rfl, ?_, trivial⟩
        show (if t = t then _ else _) = _
        rw [if_pos rfl]
      · intro q
        exact absurd ⟨rfl, by show t + 1 ≤ g + m; omega⟩ q
    · refine ⟨(t, true, st), by rw [if_neg c]; rfl, fun _ _ => rfl, Nat.le_refl _, ht2, fun q => ?_, fun _ => rfl⟩
      have : t + 1 ≤ g + m := q.2
      omega
theorem r_cp_h {fu g m a n0 : Nat} {K : Int32 → Int32 → Bool → (Nat → Int32) → Option (Int32 × Bool × (Nat → Int32))} (hK : ∀ x a b c, K x a b c = some (a, b, c)) (hg : g + m ≤ 136400) :
    ∀ (l : List UInt8) (k n t : Nat) (o : Bool) (st : Nat → Int32), sm st (a + k) l → n0 = k + l.length → a + n0 ≤ 136400 → (a + n0 ≤ t ∨ g + m ≤ a) → g ≤ t → t ≤ g + m → l.length < n →
    ∃ r, tw_MO_copy_h2 fu (iN g) (iN m) K (iN a) (iN n0) n (iN k) (iN t) o st = q_e3 r ∧ q_W g m t o st l r := by
  intro l
  induction l with
  | nil =>
    intro k n t o st _ hn0 ha _ ht ht2 hn
    obtain ⟨n, rfl⟩ : ∃ m, n = m + 1 := ⟨n - 1, by omega⟩
    simp only [List.length_nil, Nat.add_zero] at hn0
    unfold tw_MO_copy_h2
    rw [if_pos (by simp (disch := omega) only [iN_a, iN_c, iN_le, iN_lt, iN_eq, iN_i]; omega), hK]
    exact ⟨(t, o, st), rfl, q_W0 ht ht2⟩
  | cons y l ih =>
    intro k n t o st h hn0 ha hd ht ht2 hn
    obtain ⟨n, rfl⟩ : ∃ m, n = m + 1 := ⟨n - 1, by omega⟩
    rw [List.length_cons] at hn0 hn
    obtain ⟨r, r1, r2⟩ := r_wr (fu := fu) (o := o) (st := st) (y := y) ht ht2 hg
    unfold tw_MO_copy_h2
    rw [if_neg (by simp (disch := omega) only [iN_a, iN_c, iN_le, iN_lt, iN_eq, iN_i]; omega), if_pos (by simp (disch := omega) only [i_0, i_136400, iN_a, iN_c, iN_le, iN_lt, iN_eq, iN_i]; omega), show iN a + iN k = iN (a + k) from iN_a a k, iN_c (by omega), h.1, r1]
    unfold q_e3
    rw [obs3, show iN k + 1 = iN (k + 1) from iN_a k 1]
    have rt := r2.2.1
    have h2 : sm r.2.2 (a + (k + 1)) l := by
      have h2 := h.2
      rw [Nat.add_assoc] at h2
      exact sm_fr h2 (fun j h1 h2 => r2.1 j (by omega))
    obtain ⟨s, s1, s2⟩ := ih (k + 1) n r.1 r.2.1 r.2.2 h2 (by omega) ha (by omega) (by omega) r2.2.2.1 (by omega)
    exact ⟨s, s1, q_Wa (w1 := [y]) r2 s2⟩
theorem r_cp {fu g m a t : Nat} {o : Bool} {st : Nat → Int32} {l : List UInt8} (hg : g + m ≤ 136400) (h : sm st a l) (ha : a + l.length ≤ 136400) (hd : a + l.length ≤ t ∨ g + m ≤ a) (ht : g ≤ t) (ht2 : t ≤ g + m) (hf : l.length < fu) :
    ∃ r, tw_MO_copy fu (iN g) (iN m) (iN t) o st (iN a) (iN l.length) = q_e3 r ∧ q_W g m t o st l r := by
  unfold tw_MO_copy
  rw [i_0]
  exact r_cp_h (fun _ _ _ _ => rfl) hg l 0 fu t o st h (by omega) ha hd ht ht2 hf
theorem r_pl_h {fu g m n0 : Nat} {v : Int64} {K : Int32 → Int32 → Bool → (Nat → Int32) → Option (Int32 × Bool × (Nat → Int32))} (hK : ∀ x a b c, K x a b c = some (a, b, c)) (hg : g + m ≤ 136400) :
    ∀ (l : List UInt8) (k n t : Nat) (o : Bool) (st : Nat → Int32), (∀ i (h : i < l.length), ((v >>> ((8 * iN (k + i)).toInt64 &&& 63)) &&& 255).toInt32 = iN (l[i]).toNat) → n0 = k + l.length → n0 < 100 → g ≤ t → t ≤ g + m → l.length < n →
    ∃ r, tw_MO_putLow_h3 fu (iN g) (iN m) K v (iN n0) n (iN k) (iN t) o st = q_e3 r ∧ q_W g m t o st l r := by
  intro l
  induction l with
  | nil =>
    intro k n t o st _ hn0 ha ht ht2 hn
    obtain ⟨n, rfl⟩ : ∃ m, n = m + 1 := ⟨n - 1, by omega⟩
    simp only [List.length_nil, Nat.add_zero] at hn0
    unfold tw_MO_putLow_h3
    rw [if_pos (by simp (disch := omega) only [iN_a, iN_c, iN_le, iN_lt, iN_eq, iN_i]; omega), hK]
    exact ⟨(t, o, st), rfl, q_W0 ht ht2⟩
  | cons y l ih =>
    intro k n t o st h hn0 ha ht ht2 hn
    obtain ⟨n, rfl⟩ : ∃ m, n = m + 1 := ⟨n - 1, by omega⟩
    rw [List.length_cons] at hn0 hn
    obtain ⟨r, r1, r2⟩ := r_wr (fu := fu) (o := o) (st := st) (y := y) ht ht2 hg
    have h0 := h 0 (by rw [List.length_cons]; omega)
    rw [Nat.add_zero, List.getElem_cons_zero] at h0
    unfold tw_MO_putLow_h3
    rw [if_neg (by simp (disch := omega) only [iN_a, iN_c, iN_le, iN_lt, iN_eq, iN_i]; omega), h0, r1]
    unfold q_e3
    rw [obs3, show iN k + 1 = iN (k + 1) from iN_a k 1]
    have rt := r2.2.1
    obtain ⟨s, s1, s2⟩ := ih (k + 1) n r.1 r.2.1 r.2.2 (by
      intro i hi
      have := h (i + 1) (by rw [List.length_cons]; omega)
      rw [List.getElem_cons_succ] at this
      rw [show k + 1 + i = k + (i + 1) by omega]
      exact this) (by omega) ha (by omega) r2.2.2.1 (by omega)
    exact ⟨s, s1, q_Wa (w1 := [y]) r2 s2⟩
theorem r_pl {fu g m t n0 : Nat} {o : Bool} {st : Nat → Int32} {v : Int64} {l : List UInt8} (hg : g + m ≤ 136400) (hl : ∀ i (h : i < l.length), ((v >>> ((8 * iN i).toInt64 &&& 63)) &&& 255).toInt32 = iN (l[i]).toNat) (hn : l.length = n0) (h100 : n0 < 100) (ht : g ≤ t) (ht2 : t ≤ g + m) (hf : n0 < fu) :
    ∃ r, tw_MO_putLow fu (iN g) (iN m) (iN t) o st v (iN n0) = q_e3 r ∧ q_W g m t o st l r := by
  unfold tw_MO_putLow
  rw [i_0]
  refine r_pl_h (fun _ _ _ _ => rfl) hg l 0 fu t o st ?_ (by omega) h100 ht ht2 (by omega)
  intro i hi
  rw [Nat.zero_add]
  exact hl i hi
theorem r_op {fu g m t : Nat} {o : Bool} {st : Nat → Int32} (hg : g + m ≤ 136400) (ht : g ≤ t) (ht2 : t ≤ g + m) (hf : 10 ≤ fu) : ∃ r, tw_MO_open fu (iN g) (iN m) (iN t) o st = some (iN r.1 - 4, iN r.1, r.2.1, r.2.2) ∧ q_W g m t o st [0, 0, 0, 0] r := by
  obtain ⟨r, r1, r2⟩ := r_pl (fu := fu) (o := o) (st := st) (v := 0) (n0 := 4) (l := [0, 0, 0, 0]) hg (by
    intro i hi
    simp only [List.length_cons, List.length_nil] at hi
    have : i = 0 ∨ i = 1 ∨ i = 2 ∨ i = 3 := by omega
    rcases this with rfl | rfl | rfl | rfl <;> (show _ = iN (0 : UInt8).toNat; decide)) rfl (by omega) ht ht2 (by omega)
  refine ⟨r, ?_, r2⟩
  unfold tw_MO_open
  rw [i_4, r1]
  rfl
/-- the four bytes of a size -/
theorem r_b4 (n : Nat) (h : n < 2147483648) : ∀ i, i < 4 → (iN n >>> ((8 * iN i) &&& 31)) &&& 255 = iN ((q_l4 n).getD i 0).toNat := by
  have key : ∀ s : Nat, s < 32 → ∀ x : Int32, x.toBitVec = (iN n).toBitVec.sshiftRight s → x &&& 255 = iN (n / 2 ^ s % 256) := by
    intro s hs x hx
    apply q_bvi
    show (x.toBitVec &&& (255 : Int32).toBitVec).toNat = _
    rw [hx, q_bv, BitVec.toNat_and]
    have e : (iN n).toBitVec.sshiftRight s = (iN n).toBitVec >>> s := by
      rw [BitVec.sshiftRight_eq_of_msb_false]
      rw [BitVec.msb_eq_decide, q_bv]
      simp
      omega
    rw [e, BitVec.toNat_ushiftRight, q_bv, Nat.shiftRight_eq_div_pow]
    show _ &&& (2 ^ 8 - 1) = _
    rw [Nat.and_two_pow_sub_one_eq_mod, Nat.mod_eq_of_lt (show n < 4294967296 by omega)]
    have : n / 2 ^ s % 2 ^ 8 < 256 := Nat.mod_lt _ (by decide)
    omega
  intro i hi
  have : i = 0 ∨ i = 1 ∨ i = 2 ∨ i = 3 := by omega
  unfold q_l4
  rcases this with rfl | rfl | rfl | rfl
  · rw [key 0 (by omega) _ rfl]
    show _ = iN (UInt8.ofNat n).toNat
    rw [UInt8.toNat_ofNat']
    exact congrArg iN (by omega)
  · rw [key 8 (by omega) _ rfl]
    show _ = iN (UInt8.ofNat (n / 256)).toNat
    rw [UInt8.toNat_ofNat']
  · rw [key 16 (by omega) _ rfl]
    show _ = iN (UInt8.ofNat (n / 65536)).toNat
    rw [UInt8.toNat_ofNat']
  · rw [key 24 (by omega) _ rfl]
    show _ = iN (UInt8.ofNat (n / 16777216)).toNat
    rw [UInt8.toNat_ofNat']
theorem r_cl_h {fu : Nat} {bgn mst : Int32} {a n : Nat} {K : Int32 → Int32 → Bool → (Nat → Int32) → Option (Int32 × Bool × (Nat → Int32))} {t : Int32} {o : Bool} {st : Nat → Int32} (hK : ∀ x a b c, K x a b c = some (a, b, c)) (ha : a + 4 ≤ 136400) (hn : n < 2147483648) (hf : 10 ≤ fu) :
    ∃ st', tw_MO_close_h22 fu bgn mst K (iN a) (iN n) fu (iN 0) t o st = some (t, o, st') ∧ sm st' a (q_l4 n) ∧ ∀ j, j < a ∨ a + 4 ≤ j → st' j = st j := by
  have step : ∀ (k m : Nat) (st : Nat → Int32), k < 4 → tw_MO_close_h22 fu bgn mst K (iN a) (iN n) (m + 1) (iN k) t o st = tw_MO_close_h22 fu bgn mst K (iN a) (iN n) m (iN (k + 1)) t o (upd st (a + k) (iN ((q_l4 n).getD k 0).toNat)) := by
    intro k m st hk
    conv => lhs; unfold tw_MO_close_h22
    rw [if_neg (by simp (disch := omega) only [i_4, iN_a, iN_c, iN_le, iN_lt, iN_eq, iN_i]; omega), show iN a + iN k = iN (a + k) from iN_a a k, if_pos (by simp (disch := omega) only [i_0, i_136400, iN_a, iN_c, iN_le, iN_lt, iN_eq, iN_i]; omega), iN_c (by omega), r_b4 n hn k hk, show iN k + 1 = iN (k + 1) from iN_a k 1]
  obtain ⟨f, rfl⟩ : ∃ f, fu = f + 5 := ⟨fu - 5, by omega⟩
  rw [step 0 (f + 4) st (by omega), step 1 (f + 3) _ (by omega), step 2 (f + 2) _ (by omega), step 3 (f + 1) _ (by omega)]
  unfold tw_MO_close_h22
  rw [if_pos (show (4 : Int32) ≤ iN (3 + 1) by decide), hK]
  refine ⟨_, rfl, ?_, ?_⟩
  · unfold q_l4
    refine ⟨?_, ?_, ?_, ?_, trivial⟩
    · show upd (upd (upd (upd st (a + 0) _) (a + 1) _) (a + 2) _) (a + 3) _ a = _
      unfold upd
      rw [if_neg (by omega), if_neg (by omega), if_neg (by omega), if_pos (by omega)]
      rfl
    · unfold upd
      rw [if_neg (by omega), if_neg (by omega), if_pos (by omega)]
      rfl
    · unfold upd
      rw [if_neg (by omega), if_pos (by omega)]
      rfl
    · unfold upd
      rw [if_pos (by omega)]
      rfl
  · intro j hj
    unfold upd
    rw [if_neg (by omega), if_neg (by omega), if_neg (by omega), if_neg (by omega)]
/-- a box: its size, what has been written, a 0 -/
theorem r_cls {fu g m t : Nat} {o : Bool} {st : Nat → Int32} {w : List UInt8} {r : q_R} (hg : g + m ≤ 136400) (hf : 10 ≤ fu) (h : q_W g m t o st ([0, 0, 0, 0] ++ w) r) (ht : g ≤ t) {a : Int32} (hs : r.2.1 = false → a = iN t) :
    ∃ r', tw_MO_close fu (iN g) (iN m) (iN r.1) r.2.1 r.2.2 a = q_e3 r' ∧ q_W g m t o st (q_l4 (w.length + 5) ++ (w ++ [0])) r' := by
  obtain ⟨h1, h2, h3, h4, h5⟩ := h
  obtain ⟨s, s1, s2⟩ := r_wr (fu := fu) (g := g) (m := m) (t := r.1) (o := r.2.1) (st := r.2.2) (y := 0) (by omega) h3 hg
  have W := q_Wa ⟨h1, h2, h3, h4, h5⟩ s2
  obtain ⟨w1, w2, w3, w4, w5⟩ := W
  have ll : (([0, 0, 0, 0] ++ w) ++ [0]).length = (q_l4 (w.length + 5) ++ (w ++ [0])).length := by
    simp [q_l4]
  have l5 : (q_l4 (w.length + 5) ++ (w ++ [0])).length = w.length + 5 := by
    simp [q_l4]
  unfold tw_MO_close
  rw [show (0 : Int32) = iN (0 : UInt8).toNat from rfl, s1]
  unfold q_e3
  rw [obs3]
  by_cases c : o = false ∧ t + (([0, 0, 0, 0] ++ w) ++ [0]).length ≤ g + m
  · obtain ⟨c1, c2, c3⟩ := w4 c
    rw [ll, l5] at c1 c
    have rf : r.2.1 = false := by
      cases q : r.2.1 with
      | false => rfl
      | true =>
        have := s2.2.2.2.2 (fun z => by rw [q] at z; cases z.1)
        rw [c2] at this
        cases this
    rw [c2, if_pos (show b2i false = iN (0 : UInt8).toNat from rfl), hs rf, iN_s (by omega)]
    obtain ⟨st', t1, t2, t3⟩ := r_cl_h (fu := fu) (bgn := iN g) (mst := iN m) (a := t) (n := s.1 - t) (K := fun (x3_5 : Int32) (top_5 : Int32) (ovr_5 : Bool) (st_5 : Nat → Int32) => some (top_5, ovr_5, st_5)) (t := iN s.1) (o := false) (st := s.2.2) (fun _ _ _ _ => rfl) (by omega) (by omega) hf
    refine ⟨(s.1, false, st'), t1, ?_, w2, w3, ?_, ?_⟩
    · intro j hj
      show st' j = st j
      rw [t3 j (by omega), w1 j hj]
    · intro _
      rw [l5]
      refine ⟨c1, rfl, sm_ap.2 ⟨?_, ?_⟩⟩
      · rw [c1, show t + (w.length + 5) - t = w.length + 5 by omega] at t2
        exact t2
      · rw [q_l4l]
        rw [List.append_assoc] at c3
        have := (sm_ap.1 c3).2
        exact sm_fr this (fun j h1 h2 => t3 j (Or.inr h1))
    · intro q
      rw [l5] at q
      exact absurd c q
  · have so := w5 c
    rw [so, if_neg (by decide)]
    refine ⟨s, by rw [so], w1, w2, w3, ?_, ?_⟩
    · intro q
      rw [← ll] at q
      exact absurd q c
    · intro _
      exact so
/-- digits -/
theorem r_pd {fu g m t v : Nat} {o : Bool} {st : Nat → Int32} (hv : v < 1000) (hg : g + m ≤ 136400) (ht : g ≤ t) (ht2 : t ≤ g + m) : ∃ r, tw_MO_putDigits fu (iN g) (iN m) (iN t) o st (iN v) = q_e3 r ∧ q_W g m t o st (q_dg v ++ [0]) r := by
  have two : ∀ (t : Nat) (o : Bool) (st : Nat → Int32), g ≤ t → t ≤ g + m → ∃ r, ob3 (tw_MO_write fu (iN g) (iN m) (iN t) o st (48 + (iN v - iN v / 10 * 10))) (fun top_5 ovr_5 st_5 => ob3 (tw_MO_write fu (iN g) (iN m) top_5 ovr_5 st_5 0) (fun top_6 ovr_6 st_6 => some (top_6, ovr_6, st_6))) = q_e3 r ∧ q_W g m t o st [UInt8.ofNat (48 + v % 10), 0] r := by
    intro t o st ht ht2
    obtain ⟨r, r1, r2⟩ := r_wr (fu := fu) (o := o) (st := st) (y := UInt8.ofNat (48 + v % 10)) ht ht2 hg
    obtain ⟨s, s1, s2⟩ := r_wr (fu := fu) (g := g) (m := m) (t := r.1) (o := r.2.1) (st := r.2.2) (y := 0) (by have := r2.2.1; omega) r2.2.2.1 hg
    rw [show (48 : Int32) = iN 48 from rfl, show (10 : Int32) = iN 10 from rfl, r_dg (by omega), show iN (48 + v % 10) = iN (UInt8.ofNat (48 + v % 10)).toNat by rw [UInt8.toNat_ofNat']; exact congrArg iN (by omega), r1]
    unfold q_e3
    rw [obs3, show (0 : Int32) = iN (0 : UInt8).toNat from rfl, s1]
    exact ⟨s, rfl, q_Wa (w1 := [UInt8.ofNat (48 + v % 10)]) r2 s2⟩
  have r17 : ∀ (t : Nat) (o : Bool) (st : Nat → Int32), g ≤ t → t ≤ g + m → ∃ r, tw_MO_putDigits_r17 fu (iN g) (iN m) (fun (top_4 : Int32) (ovr_4 : Bool) (st_4 : Nat → Int32) => ob3 (tw_MO_write fu (iN g) (iN m) top_4 ovr_4 st_4 (48 + (iN v - iN v / 10 * 10))) (fun top_5 ovr_5 st_5 => ob3 (tw_MO_write fu (iN g) (iN m) top_5 ovr_5 st_5 0) (fun top_6 ovr_6 st_6 => some (top_6, ovr_6, st_6)))) (iN v) (iN t) o st = q_e3 r ∧
      q_W g m t o st ((if v ≤ 9 then [] else [UInt8.ofNat (48 + v / 10 % 10)]) ++ [UInt8.ofNat (48 + v % 10), 0]) r := by
    intro t o st ht ht2
    unfold tw_MO_putDigits_r17
    by_cases c : v ≤ 9
    · rw [if_pos (show iN v ≤ 9 by simp (disch := omega) only [i_9, iN_a, iN_c, iN_le, iN_lt, iN_eq, iN_i]; exact c), if_pos c]
      exact two t o st ht ht2
    · rw [if_neg (show ¬ iN v ≤ 9 by simp (disch := omega) only [i_9, iN_a, iN_c, iN_le, iN_lt, iN_eq, iN_i]; exact c), if_neg c]
      obtain ⟨r, r1, r2⟩ := r_wr (fu := fu) (o := o) (st := st) (y := UInt8.ofNat (48 + v / 10 % 10)) ht ht2 hg
      have e1 : (48 : Int32) + (iN v / 10 - iN v / 10 / 10 * 10) = iN (UInt8.ofNat (48 + v / 10 % 10)).toNat := by
        rw [show (48 : Int32) = iN 48 from rfl, show (10 : Int32) = iN 10 from rfl, r_md (a := v) (by omega), r_dg (by omega), UInt8.toNat_ofNat']
        exact congrArg iN (by omega)
      rw [e1, r1]
      unfold q_e3
      rw [obs3]
      obtain ⟨s, s1, s2⟩ := two r.1 r.2.1 r.2.2 (by have := r2.2.1; omega) r2.2.2.1
      exact ⟨s, s1, q_Wa (w1 := [UInt8.ofNat (48 + v / 10 % 10)]) r2 s2⟩
  unfold tw_MO_putDigits
  by_cases c : v ≤ 99
  · rw [if_pos (show iN v ≤ 99 by simp (disch := omega) only [i_99, iN_a, iN_c, iN_le, iN_lt, iN_eq, iN_i]; exact c)]
    obtain ⟨r, r1, r2⟩ := r17 t o st ht ht2
    refine ⟨r, r1, ?_⟩
    have e : q_dg v ++ [0] = (if v ≤ 9 then [] else [UInt8.ofNat (48 + v / 10 % 10)]) ++ [UInt8.ofNat (48 + v % 10), 0] := by
      unfold q_dg
      by_cases c2 : v ≤ 9
      · rw [if_pos (by omega), if_pos c2, show v % 10 = v by omega]
        rfl
      · rw [if_neg (by omega), if_pos (by omega), if_neg c2, show v / 10 % 10 = v / 10 by omega]
        rfl
    rw [e]
    exact r2
  · rw [if_neg (show ¬ iN v ≤ 99 by simp (disch := omega) only [i_99, iN_a, iN_c, iN_le, iN_lt, iN_eq, iN_i]; exact c)]
    obtain ⟨r, r1, r2⟩ := r_wr (fu := fu) (o := o) (st := st) (y := UInt8.ofNat (48 + v / 100)) ht ht2 hg
    have e1 : (48 : Int32) + iN v / 100 = iN (UInt8.ofNat (48 + v / 100)).toNat := by
      rw [show (48 : Int32) = iN 48 from rfl, show (100 : Int32) = iN 100 from rfl, show iN v / iN 100 = iN (v / 100) from (Int32.ofNat_div (by omega) (by omega)).symm, iN_a, UInt8.toNat_ofNat']
      exact congrArg iN (by omega)
    rw [e1, r1]
    unfold q_e3
    rw [obs3]
    obtain ⟨s, s1, s2⟩ := r17 r.1 r.2.1 r.2.2 (by have := r2.2.1; omega) r2.2.2.1
    refine ⟨s, s1, ?_⟩
    have e : q_dg v ++ [0] = [UInt8.ofNat (48 + v / 100)] ++ ((if v ≤ 9 then [] else [UInt8.ofNat (48 + v / 10 % 10)]) ++ [UInt8.ofNat (48 + v % 10), 0]) := by
      unfold q_dg
      rw [if_neg (by omega), if_neg (by omega), if_neg (by omega)]
      rfl
    rw [e]
    exact q_Wa r2 s2
/-- the head of an element: a kind and the name of an element -/
theorem r_hd2 {fu g m t e : Nat} {o : Bool} {st : Nat → Int32} {k : UInt8} {x : q_P} (hg : g + m ≤ 136400) (ht : g ≤ t) (ht2 : t ≤ g + m) (h : sm st e (q_e1 x)) (hm : (0 : UInt8) ∉ x.2.1) (he : e + x.2.1.length + 2 ≤ 136400) (hd : e + x.2.1.length + 2 ≤ t ∨ g + m ≤ e) (hf : x.2.1.length + 5 ≤ fu) :
    ∃ r, tw_MO_head fu (iN g) (iN m) (iN t) o st (iN k.toNat) (iN e) = q_e3 r ∧ q_W g m t o st (k :: (x.2.1 ++ [0])) r := by
  obtain ⟨r, r1, r2⟩ := r_wr (fu := fu) (o := o) (st := st) (y := k) ht ht2 hg
  have h' : sm st e (x.1 :: (x.2.1 ++ [0])) := by
    obtain ⟨a1, a2, a3, _⟩ := sm_e1 h
    exact ⟨a1, sm_ap.2 ⟨a2, a3, trivial⟩⟩
  have hn : sm r.2.2 e (x.1 :: (x.2.1 ++ [0])) := by
    refine sm_fr h' (fun j h1 h2 => r2.1 j ?_)
    simp at h2
    omega
  have ne : tw_MO_nameEndOf fu r.2.2 (iN e) = some (iN (e + x.2.1.length + 1)) := by
    unfold tw_MO_nameEndOf
    rw [show iN e + 1 = iN (e + 1) from iN_a e 1, r_ne_h x.2.1 (e + 1) fu (sm_ap.1 hn.2).1 (sm_ap.1 hn.2).2.1 hm (by omega) (by omega)]
    exact congrArg (fun z => some (iN z)) (by omega)
  obtain ⟨s, s1, s2⟩ := r_cp (fu := fu) (g := g) (m := m) (a := e + 1) (t := r.1) (o := r.2.1) (st := r.2.2) (l := x.2.1 ++ [0]) hg hn.2 (by simp; omega) (by have := r2.2.1; simp; omega) (by have := r2.2.1; omega) r2.2.2.1 (by simp; omega)
  unfold tw_MO_head
  rw [r1]
  unfold q_e3
  rw [obs3, ne, obs1, show iN e + 1 = iN (e + 1) from iN_a e 1, show iN (e + x.2.1.length + 1) - iN e = iN (x.2.1 ++ [0]).length by rw [iN_s (by omega)]; exact congrArg iN (by simp; omega), s1]
  exact ⟨s, rfl, q_Wa (w1 := [k]) r2 s2⟩
/-- a whole element -/
theorem r_ele {fu g m t e d : Nat} {o : Bool} {st : Nat → Int32} {x : q_P} (hg : g + m ≤ 136400) (ht : g ≤ t) (ht2 : t ≤ g + m) (h : sm st e (q_e1 x)) (hm : (0 : UInt8) ∉ x.2.1) (ho : q_ok d x.1 x.2.2) (he : e + (q_e1 x).length ≤ 136400) (hd : e + (q_e1 x).length ≤ t ∨ g + m ≤ e) (hf : (q_e1 x).length + 5 ≤ fu) :
    ∃ r, tw_MO_element fu (iN g) (iN m) (iN t) o st (iN e) = q_e3 r ∧ q_W g m t o st (q_e1 x) r := by
  have el := q_e1l x
  have s1 := sm_e1 h
  obtain ⟨s, t1, t2⟩ := r_cp (fu := fu) (o := o) hg h he hd ht ht2 (by omega)
  unfold tw_MO_element
  rw [r_vo h hm (by omega) (by omega), obs1, if_pos (by simp (disch := omega) only [i_0, i_136400, iN_a, iN_c, iN_le, iN_lt, iN_eq, iN_i]; omega), iN_c (by omega), s1.1, r_lo ho s1.2.2.2 (by omega), obs1, iN_a, show iN (e + x.2.1.length + 2 + x.2.2.length) - iN e = iN (q_e1 x).length by rw [iN_s (by omega)]; exact congrArg iN (by omega), t1]
  exact ⟨s, rfl, t2⟩
