/-! the pure part: the reference's check of a document -/
theorem q_utd : ∀ i, i < 1000 → q_ut (q_dg i) = true := by decide +kernel
def q_k1 (f : Bool → List UInt8 → Bool) (row : Bool) (i : Nat) (seen : List (List UInt8)) (k : UInt8) (r : List UInt8) : Bool :=
  if (q_nw r).length = r.length then false
  else if (if row = true then q_nw r = q_dg i else q_ut (q_nw r) = true ∧ q_nw r ∉ seen) then (q_kv f k (r.drop ((q_nw r).length + 1))).isSome else false
theorem r_e5 {fu : Nat} {fx : Int32 → Int32 → Int32 → Int32 → Option Bool} {K : Int32 → Option Bool} {st : Nat → Int32} {p0 p2 p3 p4 : Int32} {L : Nat} : ∀ (r : List UInt8) (x n : Nat), sm st x r → L = x + r.length → L < 136400 → r.length < n →
    tw_MO_isElement_h5 fu fx K st p0 (iN L) p2 p3 p4 n (iN x) = K (iN (x + (q_nw r).length)) := by
  intro r
  induction r with
  | nil =>
    intro x n _ hP hp hn
    obtain ⟨n, rfl⟩ : ∃ m, n = m + 1 := ⟨n - 1, by omega⟩
    simp only [List.length_nil, Nat.add_zero] at hP
    unfold tw_MO_isElement_h5
    rw [if_pos (by simp (disch := omega) only [iN_a, iN_c, iN_le, iN_lt, iN_eq, iN_i]; omega)]
    rfl
  | cons y r ih =>
    intro x n h hP hp hn
    obtain ⟨n, rfl⟩ : ∃ m, n = m + 1 := ⟨n - 1, by omega⟩
    rw [List.length_cons] at *
    unfold tw_MO_isElement_h5
    rw [if_neg (by simp (disch := omega) only [iN_a, iN_c, iN_le, iN_lt, iN_eq, iN_i]; omega), show iN x + 1 = iN (x + 1) from iN_a x 1, ih (x + 1) n h.2 (by omega) hp (by omega)]
    simp (disch := omega) only [i_0, i_136400, iN_a, iN_c, iN_le, iN_lt, iN_eq, iN_i, h.1, q_y0]
    rw [if_pos ⟨by omega, by omega⟩]
    unfold q_nw
    rw [List.takeWhile_cons]
    by_cases e : y = 0
    · subst e
      rw [if_pos rfl]
      simp
    · have : (y != 0) = true := by simp [e]
      rw [if_neg e]
      simp only [this, if_true, List.length_cons]
      exact congrArg (fun z => K (iN z)) (by omega)
theorem r_71 {fu : Nat} {fx : Int32 → Int32 → Int32 → Int32 → Option Bool} {K : Int32 → Option Bool} {st : Nat → Int32} {p1 p4 : Int32} {d q : Nat} {nm : List UInt8} (hf : 2500 ≤ fu) (hq : sm st (q + 1) nm) (hq2 : q + 1 + nm.length < 136400) (hK : ∀ x y, K x = K y) :
    ∀ (ps : List q_P) (e n : Nat), sm st e (q_en ps) → q_op d ps → q = e + (q_en ps).length → (q_en ps).length ≤ 2000 → ps.length < n →
    tw_MO_isElement_h71 fu fx K st (iN q) p1 (-1) p4 (iN (q + 1 + nm.length)) n (iN e) = if nm ∈ ps.map (fun x => x.2.1) then some false else K 0 := by
  intro ps
  induction ps with
  | nil =>
    intro e n _ _ he _ hn
    obtain ⟨n, rfl⟩ : ∃ m, n = m + 1 := ⟨n - 1, by omega⟩
    simp only [q_en, List.length_nil, Nat.add_zero] at he
    unfold tw_MO_isElement_h71
    rw [if_pos (by simp (disch := omega) only [iN_a, iN_c, iN_le, iN_lt, iN_eq, iN_i]; omega), if_neg (by simp)]
    exact hK _ _
  | cons x r ih =>
    intro e n h ho he hl hn
    obtain ⟨n, rfl⟩ : ∃ m, n = m + 1 := ⟨n - 1, by omega⟩
    have h' := h
    rw [q_enc] at h'
    obtain ⟨h1, h2⟩ := sm_ap.1 h'
    obtain ⟨ha, hb⟩ := ho x List.mem_cons_self
    have e1 := q_e1l x
    have e2 := q_enl x r
    have s1 := sm_e1 h1
    rw [List.length_cons] at hn
    unfold tw_MO_isElement_h71
    rw [if_neg (by simp (disch := omega) only [iN_a, iN_c, iN_le, iN_lt, iN_eq, iN_i]; omega), if_neg q_m1, r_ne h1 ha (by omega) (by omega), r_vo h1 ha (by omega) (by omega)]
    simp only [ob1]
    simp (disch := omega) only [i_1, iN_a, iN_c, iN_le, iN_lt, iN_eq, iN_i, iN_s]
    rw [show e + x.2.1.length + 1 - e - 1 = x.2.1.length by omega, show q + 1 + nm.length - q - 1 = nm.length by omega, r_ob s1.2.1 hq (by omega) (by omega) (by omega)]
    simp only
    rw [s1.1]
    have lo := r_lo (fu := fu) hb s1.2.2.2 (by omega)
    simp (disch := omega) only [i_0, i_136400, iN_a, iN_c, iN_le, iN_lt, iN_eq, iN_i, lo]
    rw [show e + x.2.1.length + 2 + x.2.2.length = e + (q_e1 x).length by omega, ← i_1, ih (e + (q_e1 x).length) n h2 (fun y hy => ho y (List.mem_cons_of_mem _ hy)) (by omega) (by omega) (by omega), List.map_cons]
    by_cases u : x.2.1 = nm
    · rw [if_pos (show q_ob x.2.1 nm = iN 0 from q_ob0.2 u), if_pos (by rw [u]; exact List.mem_cons_self)]
    · rw [if_neg (show ¬ q_ob x.2.1 nm = iN 0 from fun z => u (q_ob0.1 z)), if_pos ⟨by omega, by omega⟩]
      by_cases v : nm ∈ r.map (fun x => x.2.1)
      · rw [if_pos v, if_pos (List.mem_cons_of_mem _ v)]
      · rw [if_neg v, if_neg (fun z => by rcases List.mem_cons.1 z with z | z; exact u z.symm; exact v z)]
        rfl
theorem r_71r {fu : Nat} {fx : Int32 → Int32 → Int32 → Int32 → Option Bool} {K : Int32 → Option Bool} {st : Nat → Int32} {p0 p1 p4 x6 x7 : Int32} {i n : Nat} (hi : i < 100000) (hK : ∀ x y, K x = K y) :
    tw_MO_isElement_h71 fu fx K st p0 p1 (iN i) p4 x6 (n + 1) x7 = K 0 := by
  unfold tw_MO_isElement_h71
  split
  · exact hK _ _
  · rw [if_pos (q_p0 (by omega))]
    exact hK _ _
def r_vb (fu : Nat) (fx : Int32 → Int32 → Int32 → Int32 → Option (Bool)) (st : Nat → Int32) (p0 : Int32) (p1 : Int32) (p4 : Int32) (x6_4 : Int32) : Option Bool :=
      if 0 ≤ p0 ∧ p0 < 136400 then
        if (st p0.toNatClampNeg) = 2 then
          if ((p1 - x6_4) - 1) < 5 then
            some false
          else
            ob1 (tw_MO_whole fu st (x6_4 + 1)) (fun r_24 =>
              if r_24 ≤ 0 then
                some false
              else
                if (((p1 - x6_4) - 1) - 4) < r_24 then
                  some false
                else
                  if 0 ≤ ((x6_4 + 4) + r_24) ∧ ((x6_4 + 4) + r_24) < 136400 then
                    if (st ((x6_4 + 4) + r_24).toNatClampNeg) = 0 then
                      ob1 (tw_MO_isRightText fu st (x6_4 + 5) ((x6_4 + 4) + r_24)) (fun r_29 =>
                        if (b2i r_29) = 0 then
                          some false
                        else
                          some true)
                    else
                      some false
                  else
                    none)
        else
          if (st p0.toNatClampNeg) = 3 then
            if (st p0.toNatClampNeg) = 4 then
              ob1 (fx (x6_4 + 1) p1 1 (p4 + 1)) (fun r_34 =>
                some r_34)
            else
              ob1 (fx (x6_4 + 1) p1 0 (p4 + 1)) (fun r_33 =>
                some r_33)
          else
            if (st p0.toNatClampNeg) = 4 then
              if (st p0.toNatClampNeg) = 4 then
                ob1 (fx (x6_4 + 1) p1 1 (p4 + 1)) (fun r_38 =>
                  some r_38)
              else
                ob1 (fx (x6_4 + 1) p1 0 (p4 + 1)) (fun r_37 =>
                  some r_37)
            else
              if (st p0.toNatClampNeg) = 8 then
                if ((p1 - x6_4) - 1) < 1 then
                  some false
                else
                  if 0 ≤ (x6_4 + 1) ∧ (x6_4 + 1) < 136400 then
                    if 2 ≤ (st (x6_4 + 1).toNatClampNeg) then
                      some false
                    else
                      some true
                  else
                    none
              else
                if (st p0.toNatClampNeg) = 10 then
                  some true
                else
                  if (st p0.toNatClampNeg) = 16 then
                    if ((p1 - x6_4) - 1) < 4 then
                      some false
                    else
                      some true
                  else
                    if (st p0.toNatClampNeg) = 18 then
                      if ((p1 - x6_4) - 1) < 8 then
                        some false
                      else
                        some true
                    else
                      some false
      else
        none
theorem r_vbe {fu : Nat} {fx : Int32 → Int32 → Int32 → Int32 → Option Bool} {st : Nat → Int32} {e L x D : Nat} {f : Bool → List UInt8 → Bool} {k : UInt8} {w : List UInt8} (hf : 2500 ≤ fu) (hL : L < 136400) (hk : st e = iN k.toNat) (he : e < x)
    (h : sm st (x + 1) w) (hl : L = x + 1 + w.length) (hs : w.length ≤ 2000)
    (hfx : ∀ row : Bool, fx (iN (x + 1)) (iN L) (b2i row) (iN (D + 1)) = some (q_kn f row w).isSome) :
    r_vb fu fx st (iN e) (iN L) (iN D) (iN x) = some (q_kv f k w).isSome := by
  have kk := q_u8 k
  have F0 : fx (iN (x + 1)) (iN L) (iN 0) (iN (D + 1)) = some (q_kn f false w).isSome := hfx false
  have F1 : fx (iN (x + 1)) (iN L) (iN 1) (iN (D + 1)) = some (q_kn f true w).isSome := hfx true
  unfold r_vb q_kv
  simp (disch := omega) only [i_0, i_1, i_2, i_3, i_4, i_5, i_8, i_10, i_16, i_18, i_136400, iN_a, iN_c, iN_le, iN_lt, iN_eq, iN_i, iN_s, hk, qk_2, qk_3, qk_4, qk_8, qk_10, qk_16, qk_18, F0, F1, ob1]
  rw [if_pos ⟨by omega, by omega⟩, show L - x - 1 = w.length by omega]
  by_cases k2 : k = 2
  · subst k2
    rw [if_pos rfl, if_pos rfl]
    unfold q_kt
    by_cases c1 : w.length < 5
    · rw [if_pos c1, if_neg (by omega)]
      rfl
    rw [if_neg c1]
    have e4 : tw_MO_whole fu st (iN (x + 1)) = some (iN (q_nv (w.take 4))) := by
      match w, c1, h with
      | a :: c :: d :: e :: r, _, h =>
        obtain ⟨h0, h1, h2, h3, _⟩ := h
        rw [r_wh4 h0 h1 h2 h3 (by simp at hl; omega), ← q_nv4]
        rfl
      | [], c, _ => exact absurd c (by simp)
      | [_], c, _ => exact absurd c (by simp)
      | [_, _], c, _ => exact absurd c (by simp)
      | [_, _, _], c, _ => exact absurd c (by simp)
    rw [e4]
    have lt4 : q_nv (w.take 4) < 4294967296 := by
      have := q_nvl (w.take 4)
      have e : 256 ^ (w.take 4).length ≤ 256 ^ 4 := Nat.pow_le_pow_right (by omega) (by rw [List.length_take]; omega)
      have : (256 : Nat) ^ 4 = 4294967296 := rfl
      omega
    generalize hN : q_nv (w.take 4) = N at *
    simp only
    by_cases c2 : N < 2147483648
    rotate_left
    · have := iN_neg (a := N) (by omega) lt4
      rw [if_pos (Int32.le_of_lt this), if_neg (by omega)]
      rfl
    simp (disch := omega) only [iN_a, iN_c, iN_le, iN_lt, iN_eq, iN_i]
    by_cases c3 : N ≤ 0
    · rw [if_pos c3, if_neg (by omega)]
      rfl
    rw [if_neg c3]
    by_cases c4 : w.length - 4 < N
    · rw [if_pos c4, if_neg (by omega)]
      rfl
    rw [if_neg c4, if_pos ⟨by omega, by omega⟩]
    have g := sm_g (i := N + 3) h (by omega)
    have gd : st (x + 4 + N) = iN (w.getD (N + 3) 1).toNat := by
      rw [List.getD_eq_getElem?_getD, List.getElem?_eq_getElem (by omega), show x + 4 + N = x + 1 + (N + 3) by omega, g]
      rfl
    have ut := r_ut (fu := fu) (st := st) (p := x + 5) (l := (w.drop 4).take (N - 1)) (sm_tk _ (by have := sm_dr (n := 4) h (by omega); rwa [show x + 1 + 4 = x + 5 by omega] at this)) (by rw [List.length_take, List.length_drop]; omega) (by rw [List.length_take, List.length_drop]; omega)
    rw [List.length_take, List.length_drop, show x + 5 + min (N - 1) (w.length - 4) = x + 4 + N by omega] at ut
    rw [ut, gd, qy_0]
    by_cases c5 : w.getD (N + 3) 1 = 0
    rotate_left
    · rw [if_neg c5, if_neg (fun z => c5 z.2.2.2.1)]
      rfl
    rw [if_pos c5]
    cases hu : q_ut ((w.drop 4).take (N - 1)) with
    | false =>
      simp only
      rw [if_pos (show b2i false = iN 0 from rfl), if_neg (by simp)]
      rfl
    | true =>
      simp only
      rw [if_neg (by decide), if_pos ⟨by omega, by omega, by omega, c5, trivial⟩]
      rfl
  rw [if_neg k2, if_neg k2]
  by_cases k3 : k = 3
  · subst k3
    rfl
  rw [if_neg k3, if_neg k3]
  by_cases k4 : k = 4
  · subst k4
    rfl
  rw [if_neg k4, if_neg k4]
  by_cases k8 : k = 8
  · subst k8
    rw [if_pos rfl, if_pos rfl]
    by_cases c : w.length < 1
    · rw [if_pos c, if_neg (by omega)]
      rfl
    · rw [if_neg c, if_pos ⟨by omega, by omega⟩]
      obtain ⟨y, r, rfl⟩ := List.exists_cons_of_ne_nil (show w ≠ [] by intro e; rw [e] at c; exact c Nat.one_pos)
      have uy := q_u8 y
      rw [h.1, List.headD_cons]
      simp (disch := omega) only [iN_a, iN_c, iN_le, iN_lt, iN_eq, iN_i]
      by_cases c2 : 2 ≤ y.toNat
      · rw [if_pos c2, if_neg (by omega)]
        rfl
      · rw [if_neg c2, if_pos ⟨by omega, by omega⟩]
        rfl
  rw [if_neg k8, if_neg k8]
  by_cases k10 : k = 10
  · subst k10
    rfl
  rw [if_neg k10, if_neg k10]
  by_cases k16 : k = 16
  · subst k16
    rw [if_pos rfl, if_pos rfl]
    by_cases c : w.length < 4
    · rw [if_pos c, if_neg (by omega)]
      rfl
    · rw [if_neg c, if_pos (by omega)]
      rfl
  rw [if_neg k16, if_neg k16]
  by_cases k18 : k = 18
  · subst k18
    rw [if_pos rfl, if_pos rfl]
    by_cases c : w.length < 8
    · rw [if_pos c, if_neg (by omega)]
      rfl
    · rw [if_neg c, if_pos (by omega)]
      rfl
  rw [if_neg k18, if_neg k18]
  rfl
theorem r_el {fu : Nat} {fx : Int32 → Int32 → Int32 → Int32 → Option Bool} {st : Nat → Int32} {d e L p0 D i : Nat} {row : Bool} {f : Bool → List UInt8 → Bool} {k : UInt8} {r : List UInt8} {ps : List q_P} (hf : 2500 ≤ fu) (hL : L < 136400)
    (h : sm st e (k :: r)) (hl : L = e + (r.length + 1)) (h1 : sm st (p0 + 4) (q_en ps)) (ho : q_op d ps) (he : e = p0 + 4 + (q_en ps).length) (hs : (q_en ps).length + r.length + 1 ≤ 2000) (hi : i < 1000)
    (hfx : ∀ (row : Bool) (l : List UInt8) (p : Nat), sm st p l → L = p + l.length → l.length ≤ 2000 → fx (iN p) (iN L) (b2i row) (iN (D + 1)) = some (q_kn f row l).isSome) :
    tw_MO_isElement fu fx st (iN e) (iN L) (iN p0) (if row = true then iN i else -1) (iN D) = some (q_k1 f row i (ps.map (fun x => x.2.1)) k r) := by
  have pl := q_psl ps
  have nl := q_nwl r
  unfold tw_MO_isElement
  rw [show iN e + 1 = iN (e + 1) from iN_a e 1, r_e5 r (e + 1) fu h.2 (by omega) hL (by omega)]
  change tw_MO_isElement_r27 fu fx (tw_MO_isElement_h71 fu fx (fun _ => r_vb fu fx st (iN e) (iN L) (iN D) (iN (e + 1 + (q_nw r).length))) st (iN e) (iN L) (if row = true then iN i else -1) (iN D) (iN (e + 1 + (q_nw r).length)) fu (iN p0 + 4)) st (iN e) (iN L) (iN p0) (if row = true then iN i else -1) (iN D) (iN (e + 1 + (q_nw r).length)) = _
  unfold tw_MO_isElement_r27 q_k1
  by_cases c1 : (q_nw r).length = r.length
  · rw [if_pos c1, if_pos (congrArg iN (by omega))]
  have er := q_nwd c1
  have sn : sm st (e + 1) (q_nw r) := by
    have := h.2
    rw [er] at this
    exact (sm_ap.1 this).1
  have sr : sm st (e + 1 + (q_nw r).length + 1) (r.drop ((q_nw r).length + 1)) := by
    have := sm_dr h.2 (show (q_nw r).length + 1 ≤ r.length by omega)
    rwa [← Nat.add_assoc] at this
  have lr : (r.drop ((q_nw r).length + 1)).length = r.length - ((q_nw r).length + 1) := List.length_drop
  have V := r_vbe (D := D) (f := f) (k := k) hf hL h.1 (by omega) sr (by omega) (by omega) (fun row => hfx row _ _ sr (by omega) (by omega))
  rw [if_neg c1, if_neg (by simp (disch := omega) only [iN_a, iN_c, iN_le, iN_lt, iN_eq, iN_i]; omega), show iN e + 1 = iN (e + 1) from iN_a e 1, r_ut sn (by omega) (by omega), V]
  simp only [ob1]
  rw [show iN p0 + 4 = iN (p0 + 4) from iN_a p0 4]
  cases row with
  | false =>
    simp only [Bool.false_eq_true, if_false]
    rw [r_71 (d := d) hf sn (by omega) (fun _ _ => rfl) ps (p0 + 4) fu h1 ho he (by omega) (by omega)]
    cases hu : q_ut (q_nw r) with
    | false => simp [b2i]
    | true =>
      rw [if_neg (by decide), if_pos (by decide)]
      by_cases c : q_nw r ∈ ps.map (fun x => x.2.1)
      · rw [if_pos c, if_neg (fun z => z.2 c)]
      · rw [if_neg c, if_pos ⟨rfl, c⟩]
  | true =>
    simp only [if_true]
    obtain ⟨g, rfl⟩ : ∃ m, fu = m + 1 := ⟨fu - 1, by omega⟩
    rw [r_71r (by omega) (fun _ _ => rfl), r_isn sn (by omega) (by omega) (by omega) hi]
    simp only
    by_cases c : q_nw r = q_dg i
    · rw [if_pos c, c, q_utd i hi]
      rw [if_neg (by decide), if_neg (by simp (disch := omega) only [i_0, iN_a, iN_c, iN_le, iN_lt, iN_eq, iN_i]; omega), decide_eq_true rfl, if_neg (by decide)]
    · rw [if_neg c, decide_eq_false c, if_pos (show b2i false = 0 from rfl)]
      cases hu : q_ut (q_nw r) with
      | false => rfl
      | true =>
        rw [if_neg (by decide), if_neg (by simp (disch := omega) only [i_0, iN_a, iN_c, iN_le, iN_lt, iN_eq, iN_i]; omega)]
theorem r_nl {fu : Nat} {fe : Int32 → Int32 → Int32 → Int32 → Int32 → Option Bool} {K : Int32 → Int32 → Option Bool} {st : Nat → Int32} {p0 L d D : Nat} {row : Bool} {f : Bool → List UInt8 → Bool} (hf : 2500 ≤ fu) (hK : ∀ x y, K x y = some true)
    (hsd : ∀ row w, f row w = true → q_ok d (if row = true then 4 else 3) w) (hL : L < 136400)
    (hfe : ∀ (k : UInt8) (r : List UInt8) (ps : List q_P) (e i : Nat), sm st e (k :: r) → L = e + (r.length + 1) → sm st (p0 + 4) (q_en ps) → q_op d ps → e = p0 + 4 + (q_en ps).length → (q_en ps).length + r.length + 1 ≤ 2000 → i < 1000 →
      fe (iN e) (iN L) (iN p0) (if row = true then iN i else -1) (iN D) = some (q_k1 f row i (ps.map (fun x => x.2.1)) k r)) :
    ∀ (m : Nat) (l : List UInt8) (ps : List q_P) (e n i : Nat), sm st (p0 + 4) (q_en ps) → q_op d ps → sm st e l → e = p0 + 4 + (q_en ps).length → L = e + l.length → i = ps.length → (q_en ps).length + l.length ≤ 2000 → l.length < n → l.length ≤ m →
    tw_MO_isBox_h69 fu fe K st (iN p0) (b2i row) (iN D) (iN L) n (iN e) (iN i) = some (q_kp f row m i (ps.map (fun x => x.2.1)) l) := by
  intro m
  induction m with
  | zero =>
    intro l ps e n i h1 ho h2 he hl hi hs hn hm
    obtain ⟨n, rfl⟩ : ∃ m, n = m + 1 := ⟨n - 1, by omega⟩
    have : l = [] := List.eq_nil_of_length_eq_zero (by omega)
    subst this
    simp only [List.length_nil, Nat.add_zero] at hl
    unfold tw_MO_isBox_h69
    rw [if_pos (by simp (disch := omega) only [iN_a, iN_c, iN_le, iN_lt, iN_eq, iN_i]; omega), hK]
    rfl
  | succ m ih =>
    intro l ps e n i h1 ho h2 he hl hi hs hn hm
    obtain ⟨n, rfl⟩ : ∃ m, n = m + 1 := ⟨n - 1, by omega⟩
    have pl := q_psl ps
    cases l with
    | nil =>
      simp only [List.length_nil, Nat.add_zero] at hl
      unfold tw_MO_isBox_h69
      rw [if_pos (by simp (disch := omega) only [iN_a, iN_c, iN_le, iN_lt, iN_eq, iN_i]; omega), hK]
      rfl
    | cons k r =>
      rw [List.length_cons] at hl hs hn hm
      have E := hfe k r ps e i h2 hl h1 ho he (by omega) (by omega)
      have step : (match tw_MO_isBox_h69 fu fe K st (iN p0) (b2i row) (iN D) (iN L) (n + 1) (iN e) (iN i) with | z => z) = ob1 (fe (iN e) (iN L) (iN p0) (if row = true then iN i else -1) (iN D)) (fun r_10 =>
          if (b2i r_10) = 0 then some false else ob1 (tw_MO_valueOf fu st (iN e)) (fun r_12 => if 0 ≤ iN e ∧ iN e < 136400 then ob1 (tw_MO_lengthOf fu st (st (iN e).toNatClampNeg) r_12) (fun r_14 => tw_MO_isBox_h69 fu fe K st (iN p0) (b2i row) (iN D) (iN L) n (r_12 + r_14) (iN i + 1)) else none)) := by
        show tw_MO_isBox_h69 fu fe K st (iN p0) (b2i row) (iN D) (iN L) (n + 1) (iN e) (iN i) = _
        conv => lhs; unfold tw_MO_isBox_h69
        rw [if_neg (by simp (disch := omega) only [iN_a, iN_c, iN_le, iN_lt, iN_eq, iN_i]; omega)]
        cases row with
        | false => rfl
        | true => rfl
      refine Eq.trans step ?_
      rw [E]
      simp only [ob1]
      rw [q_kpc]
      unfold q_k1
      have nl := q_nwl r
      by_cases c1 : (q_nw r).length = r.length
      · rw [if_pos c1, if_pos c1]
        rfl
      rw [if_neg c1, if_neg c1]
      by_cases c2 : (if row = true then q_nw r = q_dg i else q_ut (q_nw r) = true ∧ q_nw r ∉ ps.map (fun x => x.2.1))
      rotate_left
      · rw [if_neg c2, if_neg c2]
        rfl
      rw [if_pos c2, if_pos c2]
      cases hv : q_kv f k (r.drop ((q_nw r).length + 1)) with
      | none => rfl
      | some j =>
        obtain ⟨j1, j2⟩ := q_kvok hsd hv
        have er := q_nwd c1
        have lr : (r.drop ((q_nw r).length + 1)).length = r.length - ((q_nw r).length + 1) := List.length_drop
        have eL : k :: r = q_e1 (k, q_nw r, (r.drop ((q_nw r).length + 1)).take j) ++ (r.drop ((q_nw r).length + 1)).drop j := by
          unfold q_e1
          show k :: r = k :: (q_nw r ++ 0 :: (r.drop ((q_nw r).length + 1)).take j) ++ (r.drop ((q_nw r).length + 1)).drop j
          rw [List.cons_append, List.append_assoc, List.cons_append, List.take_append_drop, ← er]
        have s0 := h2
        rw [eL] at s0
        obtain ⟨s1, s2⟩ := sm_ap.1 s0
        have el := q_e1l (k, q_nw r, (r.drop ((q_nw r).length + 1)).take j)
        have tl : ((r.drop ((q_nw r).length + 1)).take j).length = j := by
          rw [List.length_take]
          omega
        simp only [tl] at el
        rw [show b2i (some j).isSome = 1 from rfl, if_neg (by decide), r_vo s1 (q_nw0 r) (by show e + (q_nw r).length + 2 ≤ _; omega) (by show (q_nw r).length < _; omega)]
        simp only
        simp (disch := omega) only [i_0, i_136400, iN_a, iN_c, iN_le, iN_lt, iN_eq, iN_i]
        rw [if_pos ⟨by omega, by omega⟩, h2.1, r_lo (d := d) j2 (sm_e1 s1).2.2.2 (by show e + (q_nw r).length + 2 + _ ≤ _; rw [tl]; omega)]
        simp only [tl]
        rw [show iN i + 1 = iN (i + 1) from iN_a i 1, iN_a]
        have e1 : q_en (ps ++ [(k, q_nw r, (r.drop ((q_nw r).length + 1)).take j)]) = q_en ps ++ q_e1 (k, q_nw r, (r.drop ((q_nw r).length + 1)).take j) := by
          rw [q_ena]
          show q_en ps ++ (q_e1 _ ++ []) = _
          rw [List.append_nil]
        have e2 : (q_en (ps ++ [(k, q_nw r, (r.drop ((q_nw r).length + 1)).take j)])).length = (q_en ps).length + ((q_nw r).length + j + 2) := by
          rw [e1, List.length_append, el]
        have IH := ih ((r.drop ((q_nw r).length + 1)).drop j) (ps ++ [(k, q_nw r, (r.drop ((q_nw r).length + 1)).take j)]) (e + (q_nw r).length + 2 + j) n (i + 1) ?_ ?_ ?_ (by omega) ?_ ?_ ?_ ?_ ?_
        · rw [IH, List.map_append]
          rfl
        · rw [e1]
          refine sm_ap.2 ⟨h1, ?_⟩
          rw [← he]
          exact s1
        · intro x hx
          rcases List.mem_append.1 hx with hx | hx
          · exact ho x hx
          · rw [List.mem_singleton] at hx
            subst hx
            exact ⟨q_nw0 r, j2⟩
        · rw [el] at s2
          rwa [show e + ((q_nw r).length + j + 2) = e + (q_nw r).length + 2 + j by omega] at s2
        · rw [List.length_drop]
          omega
        · rw [List.length_append]
          simp
          omega
        · rw [e2, List.length_drop]
          omega
        · rw [List.length_drop]
          omega
        · rw [List.length_drop]
          omega
theorem r_bx {fu : Nat} {st : Nat → Int32} (hf : 2500 ≤ fu) : ∀ (n m D p : Nat) (row : Bool) (l : List UInt8), D + m = 17 → m < n → sm st p l → p + l.length < 136400 → l.length ≤ 2000 → tw_MO_bx fu st n (iN p) (iN (p + l.length)) (b2i row) (iN D) = some (q_kn (q_kb m) row l).isSome := by
  intro n
  induction n with
  | zero =>
    intro m D p row l _ hm
    omega
  | succ n ih =>
    intro m D p row l hD hm h hp hl
    unfold tw_MO_bx tw_MO_isBox q_kn
    simp (disch := omega) only [i_5, i_16, iN_a, iN_c, iN_le, iN_lt, iN_eq, iN_i, iN_s]
    rw [show p + l.length - p = l.length by omega]
    by_cases c1 : l.length < 5
    · rw [if_pos c1, if_neg (by omega)]
      rfl
    rw [if_neg c1]
    cases m with
    | zero =>
      rw [if_neg (by omega), if_neg (fun z => by cases z.2.2.2)]
      rfl
    | succ m =>
    rw [if_pos (by omega)]
    have e4 : tw_MO_whole fu st (iN p) = some (iN (q_nv (l.take 4))) := by
      match l, c1, h with
      | a :: c :: d :: e :: r, _, h =>
        obtain ⟨h0, h1, h2, h3, _⟩ := h
        rw [r_wh4 h0 h1 h2 h3 (by simp at hp; omega), ← q_nv4]
        rfl
      | [], c, _ => exact absurd c (by simp)
      | [_], c, _ => exact absurd c (by simp)
      | [_, _], c, _ => exact absurd c (by simp)
      | [_, _, _], c, _ => exact absurd c (by simp)
    rw [e4]
    have lt4 : q_nv (l.take 4) < 4294967296 := by
      have := q_nvl (l.take 4)
      have e : 256 ^ (l.take 4).length ≤ 256 ^ 4 := Nat.pow_le_pow_right (by omega) (by rw [List.length_take]; omega)
      have : (256 : Nat) ^ 4 = 4294967296 := rfl
      omega
    generalize hN : q_nv (l.take 4) = N at *
    simp only [ob1]
    by_cases c2 : N < 2147483648
    rotate_left
    · have := iN_neg (a := N) (by omega) lt4
      rw [if_pos (Int32.lt_of_lt_of_le this (by decide)), if_neg (by omega)]
      rfl
    simp (disch := omega) only [iN_a, iN_c, iN_le, iN_lt, iN_eq, iN_i]
    by_cases c3 : N < 5
    · rw [if_pos c3, if_neg (by omega)]
      rfl
    rw [if_neg c3]
    by_cases c4 : l.length < N
    · rw [if_pos c4, if_neg (by omega)]
      rfl
    rw [if_neg c4]
    simp (disch := omega) only [i_0, i_1, i_136400, iN_a, iN_c, iN_le, iN_lt, iN_eq, iN_i, iN_s]
    rw [if_pos ⟨by omega, by omega⟩]
    have wl : (l.take N).length = N := by
      rw [List.length_take]
      omega
    have sw : sm st p (l.take N) := sm_tk _ h
    generalize hW : l.take N = w at *
    have w4 : q_nv (w.take 4) = N := by
      rw [← hW, List.take_take, show min 4 N = 4 by omega, hN]
    have lb : st (p + N - 1) = iN (w.getD (w.length - 1) 1).toNat := by
      have := sm_g (i := w.length - 1) sw (by omega)
      rw [List.getD_eq_getElem?_getD, List.getElem?_eq_getElem (by omega), show p + N - 1 = p + (w.length - 1) by omega, this]
      rfl
    rw [lb, qy_0]
    have kb : q_kb (m + 1) row w = (decide (w.getD (w.length - 1) 1 = 0) && q_kp (q_kb m) row w.length 0 [] (q_tt w)) := by
      conv => lhs; unfold q_kb
      rw [decide_eq_true (show 5 ≤ w.length ∧ q_nv (w.take 4) = w.length by omega), Bool.true_and]
    rw [kb]
    by_cases c5 : w.getD (w.length - 1) 1 = 0
    rotate_left
    · rw [if_neg c5, decide_eq_false c5, if_neg (by simp)]
      rfl
    rw [if_pos c5, decide_eq_true c5, Bool.true_and]
    have tl : (q_tt w).length = w.length - 5 := by
      unfold q_tt
      rw [List.length_dropLast, List.length_drop]
      omega
    have stt : sm st (p + 4) (q_tt w) := by
      unfold q_tt
      rw [List.dropLast_eq_take]
      exact sm_tk _ (sm_dr sw (by omega))
    have key := r_nl (K := fun _ _ => some true) (p0 := p) (L := p + N - 1) (d := m) (D := D) (row := row) (f := q_kb m) (fe := fun p0 p1 p2 p3 p4 => tw_MO_isElement fu (fun p0 p1 p2 p3 => tw_MO_bx fu st n p0 p1 p2 p3) st p0 p1 p2 p3 p4) hf (fun _ _ => rfl)
      (q_kbok m) (by omega) ?_ w.length (q_tt w) [] (p + 4) fu 0 trivial (fun x hx => by cases hx) stt rfl (by omega) rfl (by rw [tl]; show 0 + _ ≤ _; omega) (by omega) (by omega)
    · rw [show iN p + 4 = iN (p + 4) from iN_a p 4] 
      refine key.trans ?_
      show some (q_kp (q_kb m) row w.length 0 [] (q_tt w)) = _
      cases hq : q_kp (q_kb m) row w.length 0 [] (q_tt w) with
      | false => rw [if_neg (by simp)]; rfl
      | true => rw [if_pos ⟨by omega, by omega, by omega, rfl⟩]; rfl
    · intro k r ps e i g1 g2 g3 g4 g5 g6 g7
      refine r_el (d := m) (D := D) hf (by omega) g1 g2 g3 g4 g5 g6 g7 ?_
      intro row' l' q s1 hq b1
      have := ih m (D + 1) q row' l' (by omega) (by omega) s1 (by omega) b1
      rwa [← hq] at this
