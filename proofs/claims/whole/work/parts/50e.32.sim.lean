/-! the pure part: the calls that read -/
def q_aM (F : List (List UInt8)) (w : Int32) : Int32 := if w = 0 then iN F.length else if w = 1 then iN F.flatten.length else -1
def q_aS (F : List (List UInt8)) (k : Int32) : Int32 := if k < 0 then -1 else match F[k.toNatClampNeg]? with | none => -1 | some d => iN d.length
def q_aB (F : List (List UInt8)) (k i : Int32) : Int32 := if k < 0 then -1 else match F[k.toNatClampNeg]? with | none => -1 | some d => if i < 0 then -1 else match d[i.toNatClampNeg]? with | none => -1 | some y => iN y.toNat
/-- a number from 0 on -/
theorem q_nn {x : Int32} (h : ¬ x < 0) : x = iN x.toNatClampNeg ∧ x.toNatClampNeg < 2147483648 := by
  have h0 : 0 ≤ x := Int32.not_lt.1 h
  refine ⟨(Int32.ofNat_toNatClampNeg x h0).symm, ?_⟩
  have h1 := Int32.toInt_lt x
  show x.toInt.toNat < 2147483648
  omega
theorem q_01c {x : Int32} (h0 : ¬ x = 0) (h1 : ¬ x = 1) : x < 0 ∨ 1 < x := by
  by_cases h : x < 0
  · exact Or.inl h
  · right
    obtain ⟨e, l⟩ := q_nn h
    rw [e] at h0 h1 ⊢
    have a : x.toNatClampNeg ≠ 0 := fun q => h0 (by rw [q]; rfl)
    have c : x.toNatClampNeg ≠ 1 := fun q => h1 (by rw [q]; rfl)
    rw [i_1, iN_lt (by omega) l]
    omega
theorem c_many {b : Nat → UInt8} {fb kb nb : Nat} {fcnt kcnt onT : Int32} {fsts ksts : Nat → Int32} {F K : List (List UInt8)} {T : List UInt8} (h : q_cs b fb kb nb fcnt fsts kcnt ksts onT F K T) (p w : Int32) :
    tw_PB_many (iN fb) (iN kb) fcnt fsts kcnt ksts p w = if p = 0 then q_aM F w else if p = 1 then q_aM K w else -1 := by
  have one : ∀ (base : Nat) (cnt : Int32) (sts : Nat → Int32) (F : List (List UInt8)), q_be b base cnt sts F → (if w < 0 then (-1 : Int32) else if w ≤ 1 then (if w = 0 then cnt else tw_BE_end (iN base) cnt sts - iN base) else -1) = q_aM F w := by
    intro base cnt sts F h
    have f := h.2.2.2.1.2.1
    have g := h.2.2.2.2.1
    unfold q_aM
    rw [q_bee h, iN_s (by omega), show base + F.flatten.length - base = F.flatten.length by omega, h.1]
    by_cases w0 : w = 0
    · subst w0
      rfl
    · rw [if_neg w0, if_neg w0]
      by_cases w1 : w = 1
      · subst w1
        rfl
      · rw [if_neg w1]
        rcases q_01c w0 w1 with q | q
        · rw [if_pos q]
        · rw [if_neg (fun z => Int32.lt_asymm z (Int32.lt_trans (by decide) q)), if_neg (fun z => absurd q (Int32.not_lt.2 z))]
  unfold tw_PB_many
  rw [one fb fcnt fsts F h.1, one kb kcnt ksts K h.2.1]
theorem r_many {fu : Nat} {st dcs tot frm siz : Nat → Int32} {tpd : Int32} {F K : List (List UInt8)} {T : List UInt8} (h : q_rs2 st dcs tot frm siz tpd F K T) (p w : Int32) :
    tw_MO_many fu dcs tot p w = some (if p = 0 then q_aM F w else if p = 1 then q_aM K w else -1) := by
  unfold tw_MO_many q_aM
  by_cases p0 : p = 0
  · subst p0
    rw [if_neg (by decide), if_pos (by decide), if_pos rfl]
    by_cases w0 : w = 0
    · rw [if_pos w0, if_pos w0, if_pos (by decide)]
      exact congrArg some h.1.1
    · rw [if_neg w0, if_neg w0]
      by_cases w1 : w = 1
      · rw [if_pos w1, if_pos w1, if_pos (by decide)]
        exact congrArg some h.1.2.1
      · rw [if_neg w1, if_neg w1]
  · rw [if_neg p0]
    by_cases p1 : p = 1
    · subst p1
      rw [if_neg (by decide), if_pos (by decide), if_pos rfl]
      by_cases w0 : w = 0
      · rw [if_pos w0, if_pos w0, if_pos (by decide)]
        exact congrArg some h.2.1.1
      · rw [if_neg w0, if_neg w0]
        by_cases w1 : w = 1
        · rw [if_pos w1, if_pos w1, if_pos (by decide)]
          exact congrArg some h.2.1.2.1
        · rw [if_neg w1, if_neg w1]
    · rw [if_neg p1]
      rcases q_01c p0 p1 with q | q
      · rw [if_pos q]
      · rw [if_neg (fun z => Int32.lt_asymm z (Int32.lt_trans (by decide) q)), if_neg (fun z => absurd q (Int32.not_lt.2 z))]
theorem c_size {b : Nat → UInt8} {fb kb nb : Nat} {fcnt kcnt onT : Int32} {fsts ksts : Nat → Int32} {F K : List (List UInt8)} {T : List UInt8} (h : q_cs b fb kb nb fcnt fsts kcnt ksts onT F K T) (p k : Int32) :
    tw_PB_size (iN fb) (iN kb) fcnt fsts kcnt ksts p k = if p = 0 then q_aS F k else if p = 1 then q_aS K k else -1 := by
  have one : ∀ (base : Nat) (cnt : Int32) (sts : Nat → Int32) (F : List (List UInt8)), q_be b base cnt sts F → (if k < 0 then (-1 : Int32) else if k < cnt then tw_BE_start (iN base) cnt sts (k + 1) - tw_BE_start (iN base) cnt sts k else -1) = q_aS F k := by
    intro base cnt sts F h
    have f := h.2.2.2.1.1
    have f2 := h.2.2.2.1.2.1
    have g := h.2.2.2.2.1
    unfold q_aS
    by_cases k0 : k < 0
    · rw [if_pos k0, if_pos k0]
    rw [if_neg k0, if_neg k0]
    obtain ⟨e, l⟩ := q_nn k0
    generalize k.toNatClampNeg = i at e l
    subst e
    have hc := h.1
    by_cases c : i < F.length
    · obtain ⟨d, hd⟩ : ∃ d, F[i]? = some d := ⟨F[i], List.getElem?_eq_getElem c⟩
      have ps := q_pfs hd
      have := q_pfl F (i + 1)
      rw [if_pos (by rw [hc, iN_lt (by omega) (by omega)]; exact c), show iN i + 1 = iN (i + 1) from iN_a i 1, q_bes h (by omega), q_bes h (by omega), iN_s (by omega), hd]
      exact congrArg iN (by omega)
    · rw [if_neg (by rw [hc, iN_lt (by omega) (by omega)]; exact c), List.getElem?_eq_none (by omega)]
  unfold tw_PB_size
  rw [one fb fcnt fsts F h.1, one kb kcnt ksts K h.2.1]
theorem r_there {fu w : Nat} {st dcs tot frm siz : Nat → Int32} {F : List (List UInt8)} (hw : w < 2) (h : q_rb st w dcs tot frm siz F) (k : Int32) :
    tw_MO_isThere fu dcs (iN w) k = some (if k < 0 then false else decide (k.toNatClampNeg < F.length)) := by
  have f := h.2.2.2.2.1
  unfold tw_MO_isThere
  rw [if_neg (by simp (disch := omega) only [i_0, iN_a, iN_c, iN_le, iN_lt, iN_eq, iN_i]; omega), if_neg (by simp (disch := omega) only [i_2, iN_a, iN_c, iN_le, iN_lt, iN_eq, iN_i]; omega)]
  by_cases k0 : k < 0
  · rw [if_pos k0, if_pos k0]
  rw [if_neg k0, if_neg k0, if_pos (by simp (disch := omega) only [i_0, i_2, iN_a, iN_c, iN_le, iN_lt, iN_eq, iN_i]; omega), iN_c (by omega), h.1]
  obtain ⟨e, l⟩ := q_nn k0
  generalize k.toNatClampNeg = i at e l ⊢
  subst e
  by_cases c : i < F.length
  · rw [if_neg (by rw [iN_le (by omega) (by omega)]; omega), decide_eq_true c]
  · rw [if_pos (by rw [iN_le (by omega) (by omega)]; omega), decide_eq_false c]
theorem r_there2 {fu : Nat} {dcs : Nat → Int32} {p k : Int32} (p0 : ¬ p = 0) (p1 : ¬ p = 1) : tw_MO_isThere fu dcs p k = some false := by
  unfold tw_MO_isThere
  rcases q_01c p0 p1 with q | q
  · rw [if_pos q]
  · rw [if_neg (fun z => Int32.lt_asymm z (Int32.lt_trans (by decide) q))]
    by_cases c : 2 ≤ p
    · rw [if_pos c]
    · exfalso
      have h0 : ¬ p < 0 := fun z => Int32.lt_asymm z (Int32.lt_trans (by decide) q)
      obtain ⟨e, l⟩ := q_nn h0
      rw [e] at q c
      rw [i_1, iN_lt (by omega) l] at q
      rw [i_2, iN_le (by omega) l] at c
      omega
theorem r_size {fu : Nat} {st dcs tot frm siz : Nat → Int32} {tpd : Int32} {F K : List (List UInt8)} {T : List UInt8} (h : q_rs2 st dcs tot frm siz tpd F K T) (p k : Int32) :
    tw_MO_size fu dcs siz p k = some (if p = 0 then q_aS F k else if p = 1 then q_aS K k else -1) := by
  have one : ∀ (w : Nat) (F : List (List UInt8)), w < 2 → q_rb st w dcs tot frm siz F → tw_MO_size fu dcs siz (iN w) k = some (q_aS F k) := by
    intro w F hw h
    have f := h.2.2.2.2.1
    unfold tw_MO_size q_aS
    rw [r_there hw h, obs1]
    by_cases k0 : k < 0
    · rw [if_pos k0, if_pos k0]
      rfl
    rw [if_neg k0, if_neg k0]
    obtain ⟨e, l⟩ := q_nn k0
    generalize k.toNatClampNeg = i at e l ⊢
    subst e
    rw [q_b2]
    by_cases c : i < F.length
    · obtain ⟨d, hd⟩ : ∃ d, F[i]? = some d := ⟨F[i], List.getElem?_eq_getElem c⟩
      rw [if_pos c, hd, i_200, iN_m, iN_a, if_pos (by simp (disch := omega) only [i_0, i_400, iN_a, iN_c, iN_le, iN_lt, iN_eq, iN_i]; omega), iN_c (by omega), (h.2.2.1 i d hd).2]
    · rw [if_neg c, List.getElem?_eq_none (by omega)]
  by_cases p0 : p = 0
  · subst p0
    rw [if_pos rfl]
    exact one 0 F (by omega) h.1
  rw [if_neg p0]
  by_cases p1 : p = 1
  · subst p1
    rw [if_pos rfl]
    exact one 1 K (by omega) h.2.1
  rw [if_neg p1]
  unfold tw_MO_size
  rw [r_there2 p0 p1]
  rfl
theorem c_byte {b : Nat → UInt8} {fb kb nb : Nat} {fcnt kcnt onT : Int32} {fsts ksts : Nat → Int32} {F K : List (List UInt8)} {T : List UInt8} (h : q_cs b fb kb nb fcnt fsts kcnt ksts onT F K T) (p k i : Int32) :
    tw_PB_byteAt (iN fb) (iN kb) b fcnt fsts kcnt ksts p k i = if p = 0 then q_aB F k i else if p = 1 then q_aB K k i else -1 := by
  have one : ∀ (base : Nat) (cnt : Int32) (sts : Nat → Int32) (F : List (List UInt8)), q_be b base cnt sts F → (if k < 0 then (-1 : Int32) else if k < cnt then (if i < 0 then -1 else if i < tw_BE_start (iN base) cnt sts (k + 1) - tw_BE_start (iN base) cnt sts k then tw_ST_at b (tw_BE_start (iN base) cnt sts k + i) else -1) else -1) = q_aB F k i := by
    intro base cnt sts F h
    have f := h.2.2.2.1.1
    have f2 := h.2.2.2.1.2.1
    have g := h.2.2.2.2.1
    unfold q_aB
    by_cases k0 : k < 0
    · rw [if_pos k0, if_pos k0]
    rw [if_neg k0, if_neg k0]
    obtain ⟨e, l⟩ := q_nn k0
    generalize k.toNatClampNeg = j at e l
    subst e
    have hc := h.1
    by_cases c : j < F.length
    · obtain ⟨d, hd⟩ : ∃ d, F[j]? = some d := ⟨F[j], List.getElem?_eq_getElem c⟩
      have ps := q_pfs hd
      have := q_pfl F (j + 1)
      obtain ⟨b1, b2, b3, b4⟩ := q_bed h hd
      rw [if_pos (by rw [hc, iN_lt (by omega) (by omega)]; exact c), show iN j + 1 = iN (j + 1) from iN_a j 1, q_bes h (by omega), q_bes h (by omega), iN_s (by omega), hd, show base + q_pf F (j + 1) - (base + q_pf F j) = d.length by omega]
      dsimp only
      by_cases i0 : i < 0
      · rw [if_pos i0, if_pos i0]
      rw [if_neg i0, if_neg i0]
      obtain ⟨e, l2⟩ := q_nn i0
      generalize i.toNatClampNeg = m at e l2
      subst e
      by_cases c2 : m < d.length
      · rw [if_pos (by rw [iN_lt (by omega) (by omega)]; exact c2), iN_a, q_at (by omega), sb_g b1 c2, List.getElem?_eq_getElem c2]
      · rw [if_neg (by rw [iN_lt (by omega) (by omega)]; exact c2), List.getElem?_eq_none (by omega)]
    · rw [if_neg (by rw [hc, iN_lt (by omega) (by omega)]; exact c), List.getElem?_eq_none (by omega)]
  unfold tw_PB_byteAt
  rw [one fb fcnt fsts F h.1, one kb kcnt ksts K h.2.1]
theorem r_byte {fu : Nat} {st dcs tot frm siz : Nat → Int32} {tpd : Int32} {F K : List (List UInt8)} {T : List UInt8} (h : q_rs2 st dcs tot frm siz tpd F K T) (p k i : Int32) :
    tw_MO_byteAt fu st dcs frm siz p k i = some (if p = 0 then q_aB F k i else if p = 1 then q_aB K k i else -1) := by
  have one : ∀ (w : Nat) (F : List (List UInt8)), w < 2 → q_rb st w dcs tot frm siz F → tw_MO_byteAt fu st dcs frm siz (iN w) k i = some (q_aB F k i) := by
    intro w F hw h
    have f := h.2.2.2.2.1
    have f2 := h.2.2.2.2.2.1
    unfold tw_MO_byteAt q_aB
    rw [r_there hw h, obs1]
    by_cases k0 : k < 0
    · rw [if_pos k0, if_pos k0]
      rfl
    rw [if_neg k0, if_neg k0]
    obtain ⟨e, l⟩ := q_nn k0
    generalize k.toNatClampNeg = j at e l ⊢
    subst e
    rw [q_b2]
    by_cases c : j < F.length
    · obtain ⟨d, hd⟩ : ∃ d, F[j]? = some d := ⟨F[j], List.getElem?_eq_getElem c⟩
      obtain ⟨b1, b2, b3, b4⟩ := q_rbd h hd
      rw [if_pos c, hd]
      dsimp only
      by_cases i0 : i < 0
      · rw [if_pos i0, if_pos i0]
      rw [if_neg i0, if_neg i0, i_200, iN_m, iN_a, if_pos (by simp (disch := omega) only [i_0, i_400, iN_a, iN_c, iN_le, iN_lt, iN_eq, iN_i]; omega), iN_c (by omega), (h.2.2.1 j d hd).2, (h.2.2.1 j d hd).1]
      obtain ⟨e, l2⟩ := q_nn i0
      generalize i.toNatClampNeg = m at e l2
      subst e
      by_cases c2 : m < d.length
      · rw [if_neg (by rw [iN_le (by omega) (by omega)]; omega), iN_a, if_pos (by simp (disch := omega) only [i_0, i_136400, iN_a, iN_c, iN_le, iN_lt, iN_eq, iN_i]; omega), iN_c (by omega), sm_g b1 c2, List.getElem?_eq_getElem c2]
      · rw [if_pos (by rw [iN_le (by omega) (by omega)]; omega), List.getElem?_eq_none (by omega)]
    · rw [if_neg c, List.getElem?_eq_none (by omega)]
  by_cases p0 : p = 0
  · subst p0
    rw [if_pos rfl]
    exact one 0 F (by omega) h.1
  rw [if_neg p0]
  by_cases p1 : p = 1
  · subst p1
    rw [if_pos rfl]
    exact one 1 K (by omega) h.2.1
  rw [if_neg p1]
  unfold tw_MO_byteAt
  rw [r_there2 p0 p1]
  rfl
