/-! the pure part: the class's check of a document -/
theorem q_ob0 {l m : List UInt8} : q_ob l m = 0 ↔ l = m := by
  induction l generalizing m with
  | nil => cases m <;> simp [q_ob]
  | cons x l ih =>
    cases m with
    | nil => simp [q_ob]
    | cons y m =>
      unfold q_ob
      by_cases e : x = y
      · rw [if_pos e, ih, e]
        simp
      · rw [if_neg e]
        constructor
        · intro h
          split at h
          · cases h
          · cases h
        · intro h
          exact absurd (List.cons.inj h).1 e
theorem q_eon_h {b : Nat → UInt8} {P : Nat} : ∀ (r : List UInt8) (x n : Nat), sb b x r → P = x + r.length → P < 202000 → r.length < n → tw_CH_endOfName_h2 b (iN P) n (iN x) = if (q_nw r).length = r.length then -1 else iN (x + (q_nw r).length) := by
  intro r
  induction r with
  | nil =>
    intro x n _ hP hp hn
    obtain ⟨n, rfl⟩ : ∃ m, n = m + 1 := ⟨n - 1, by omega⟩
    simp only [List.length_nil, Nat.add_zero] at hP
    unfold tw_CH_endOfName_h2
    rw [if_pos (by simp (disch := omega) only [iN_a, iN_c, iN_le, iN_lt, iN_eq, iN_i]; omega)]
    rfl
  | cons y r ih =>
    intro x n h hP hp hn
    obtain ⟨n, rfl⟩ : ∃ m, n = m + 1 := ⟨n - 1, by omega⟩
    rw [List.length_cons] at *
    unfold tw_CH_endOfName_h2
    rw [if_neg (by simp (disch := omega) only [iN_a, iN_c, iN_le, iN_lt, iN_eq, iN_i]; omega), q_at (by omega), h.1, show iN x + 1 = iN (x + 1) from iN_a x 1, ih (x + 1) n h.2 (by omega) hp (by omega), i_0, qy_0]
    unfold q_nw
    rw [List.takeWhile_cons]
    by_cases e : y = 0
    · subst e
      rw [if_pos rfl, if_neg (by simp)]
      rfl
    · have : (y != 0) = true := by simp [e]
      rw [if_neg e]
      simp only [this, if_true, List.length_cons]
      by_cases c : (List.takeWhile (fun x => x != 0) r).length = r.length
      · rw [if_pos c, if_pos (by omega)]
      · rw [if_neg c, if_neg (by omega)]
        exact congrArg iN (by omega)
theorem q_eon {b : Nat → UInt8} {x : Nat} {r : List UInt8} (h : sb b x r) (hp : x + r.length < 202000) : tw_CH_endOfName b (iN x) (iN (x + r.length)) = if (q_nw r).length = r.length then -1 else iN (x + (q_nw r).length) := by
  unfold tw_CH_endOfName
  simp (disch := omega) only [iN_a, iN_c, iN_le, iN_lt, iN_eq, iN_i]
  exact q_eon_h r x _ h rfl hp (by omega)
theorem q_inn_h {b : Nat → UInt8} {d q : Nat} {nm : List UInt8} (hq : sb b (q + 1) nm) (hq2 : q + 1 + nm.length < 202000) : ∀ (ps : List q_P) (e n i : Nat), sb b e (q_en ps) → q_op d ps → q = e + (q_en ps).length → ps.length < n → i + ps.length ≤ 1000 →
    tw_CH_isNewName_h19 b (iN q) (iN (q + 1 + nm.length)) n (iN e) (iN i) = decide (nm ∉ ps.map (fun x => x.2.1)) := by
  intro ps
  induction ps with
  | nil =>
    intro e n i _ _ he hn hi
    obtain ⟨n, rfl⟩ : ∃ m, n = m + 1 := ⟨n - 1, by omega⟩
    unfold tw_CH_isNewName_h19
    simp only [q_en, List.length_nil, Nat.add_zero] at he
    simp (disch := omega) only [i_1000, iN_a, iN_c, iN_le, iN_lt, iN_eq, iN_i]
    rw [he]
    simp
  | cons x r ih =>
    intro e n i h ho he hn hi
    obtain ⟨n, rfl⟩ : ∃ m, n = m + 1 := ⟨n - 1, by omega⟩
    obtain ⟨h1, h2⟩ := sb_en h
    obtain ⟨ha, hb⟩ := ho x List.mem_cons_self
    have e1 := q_e1l x
    have e2 := q_enl x r
    have kx := (q_okn hb).1
    have s1 := sb_e1 h1
    rw [List.length_cons] at *
    unfold tw_CH_isNewName_h19 tw_ST_placeOf
    rw [q_vo h1 kx ha (by omega), q_eo hb s1.2.2.2 (by omega)]
    simp (disch := omega) only [i_1, i_5, i_31, i_1000, q_p, iN_a, iN_c, iN_le, iN_lt, iN_eq, iN_i, iN_s]
    rw [if_neg (by omega), if_neg (by omega), show e + x.2.1.length + 2 - 1 = e + 1 + x.2.1.length by omega, q_cb s1.2.1 hq (by omega) (by omega), show e + x.2.1.length + 2 + x.2.2.length = e + (q_e1 x).length by omega,
      ih (e + (q_e1 x).length) n (i + 1) h2 (fun y hy => ho y (List.mem_cons_of_mem _ hy)) (by omega) (by omega) (by omega)]
    rw [List.map_cons]
    by_cases u : x.2.1 = nm
    · rw [if_pos (q_ob0.2 u)]
      simp [u]
    · rw [if_neg (fun z => u (q_ob0.1 z)), decide_eq_decide]
      simp only [List.mem_cons, not_or]
      exact ⟨fun z => ⟨fun w => u w.symm, z⟩, fun z => z.2⟩
theorem q_inn {b : Nat → UInt8} {d f q : Nat} {nm : List UInt8} {ps : List q_P} (hq : sb b (q + 1) nm) (hq2 : q + 1 + nm.length < 202000) (h : sb b f (q_en ps)) (ho : q_op d ps) (he : q = f + (q_en ps).length) (hl : (q_en ps).length ≤ 2000) :
    tw_CH_isNewName b (iN f) (iN q) (iN (q + 1 + nm.length)) = decide (q_ut nm = true ∧ nm ∉ ps.map (fun x => x.2.1)) := by
  have pl := q_psl ps
  unfold tw_CH_isNewName
  rw [show iN q + 1 = iN (q + 1) from iN_a q 1, q_ut8 hq hq2]
  simp (disch := omega) only [i_0, i_1000, iN_a, iN_c, iN_le, iN_lt, iN_eq, iN_i]
  rw [q_inn_h hq hq2 ps f _ 0 h ho he (by omega) (by omega)]
  cases hu : q_ut nm with
  | false =>
    rw [if_pos (show b2i false = iN 0 from rfl)]
    simp
  | true =>
    rw [if_neg (by decide)]
    simp
theorem q_et {b : Nat → UInt8} {p : Nat} {l : List UInt8} (h : sb b p l) (hp : p + l.length ≤ 2000) : tw_CH_endOfText b (iN p) (iN (p + l.length)) = match q_kt l with | none => -1 | some m => iN (p + m) := by
  unfold tw_CH_endOfText q_kt
  simp (disch := omega) only [i_0, i_1, i_4, iN_a, iN_c, iN_le, iN_lt, iN_eq, iN_i, iN_s]
  by_cases c1 : p + 4 ≤ p + l.length
  rotate_left
  · rw [if_neg c1, if_neg (by omega)]
  rw [if_pos c1, q_int (by omega)]
  have e4 : q_g4 (b p) (b (p + 1)) (b (p + 2)) (b (p + 3)) = q_nv (l.take 4) := by
    match l, c1, h with
    | a :: c :: d :: e :: r, _, h =>
      obtain ⟨h0, h1, h2, h3, _⟩ := h
      rw [h0, h1, show p + 2 = p + 1 + 1 from rfl, h2, show p + 3 = p + 1 + 1 + 1 from rfl, h3]
      exact (q_nv4 a c d e).symm
    | [], c, _ => exact absurd c (by simp)
    | [_], c, _ => exact absurd c (by simp)
    | [_, _], c, _ => exact absurd c (by simp)
    | [_, _, _], c, _ => exact absurd c (by simp)
  rw [e4]
  have lt4 : q_nv (l.take 4) < 4294967296 := by
    have := q_nvl (l.take 4)
    have e : 256 ^ (l.take 4).length ≤ 256 ^ 4 := Nat.pow_le_pow_right (by omega) (by rw [List.length_take]; omega)
    have : (256 : Nat) ^ 4 = 4294967296 := rfl
    omega
  generalize hN : q_nv (l.take 4) = N at *
  by_cases c2 : N < 2147483648
  rotate_left
  · have := iN_neg (a := N) (by omega) lt4
    rw [if_pos (Int32.lt_of_lt_of_le this (by decide)), if_neg (by omega)]
  simp (disch := omega) only [iN_a, iN_c, iN_le, iN_lt, iN_eq, iN_i]
  by_cases c3 : N < 1
  · rw [if_pos c3, if_neg (by omega)]
  rw [if_neg c3]
  by_cases c4 : N ≤ p + l.length - (p + 4)
  rotate_left
  · rw [if_neg c4, if_neg (by omega)]
  rw [if_pos c4, iN_s (by omega), q_at (by omega)]
  have g := sb_g (i := N + 3) h (by omega)
  have gd : l.getD (N + 3) 1 = b (p + 4 + N - 1) := by
    rw [List.getD_eq_getElem?_getD, List.getElem?_eq_getElem (by omega), show p + 4 + N - 1 = p + (N + 3) by omega, g]
    rfl
  have ut := q_ut8 (b := b) (p := p + 4) (l := (l.drop 4).take (N - 1)) (sb_tk _ (sb_dr h (by omega))) (by rw [List.length_take, List.length_drop]; omega)
  rw [List.length_take, List.length_drop, show p + 4 + min (N - 1) (l.length - 4) = p + 4 + N - 1 by omega] at ut
  rw [ut, qy_0]
  by_cases c5 : b (p + 4 + N - 1) = 0
  rotate_left
  · rw [if_neg c5, if_neg (by rw [gd]; exact fun z => c5 z.2.2.2.1)]
  rw [if_pos c5]
  cases hu : q_ut ((l.drop 4).take (N - 1)) with
  | false =>
    rw [if_pos (show b2i false = iN 0 from rfl), if_neg (by simp)]
  | true =>
    rw [if_neg (by decide), if_pos ⟨by omega, by omega, by omega, by rw [gd]; exact c5, rfl⟩]
    exact congrArg iN (by omega)
theorem q_ng1 (p : Nat) : (match (none : Option Nat) with | none => (-1 : Int32) | some m => iN (p + m)) = -1 := rfl
theorem q_enst {fn : Int32 → Int32 → Int32 → Bool} {b : Nat → UInt8} {p : Nat} {l : List UInt8} {row : Bool} {f : Bool → List UInt8 → Bool} {p3 : Int32} (h : sb b p l) (hp : p + l.length ≤ 2000)
    (hf : ∀ w, sb b p w → p + w.length ≤ 2000 → fn (iN p) (iN (p + w.length)) (b2i row) = f row w) :
    tw_CH_endOfNest fn b (b2i row) (iN p) (iN (p + l.length)) p3 = match q_kn f row l with | none => -1 | some m => iN (p + m) := by
  unfold tw_CH_endOfNest q_kn
  simp (disch := omega) only [i_0, i_5, iN_a, iN_c, iN_le, iN_lt, iN_eq, iN_i, iN_s]
  rw [show p + l.length - p = l.length by omega]
  by_cases c1 : 5 ≤ l.length
  rotate_left
  · rw [if_neg c1, if_neg (fun z => c1 z.1)]
  rw [if_pos c1, q_int (by omega)]
  have e4 : q_g4 (b p) (b (p + 1)) (b (p + 2)) (b (p + 3)) = q_nv (l.take 4) := by
    match l, c1, h with
    | a :: c :: d :: e :: r, _, h =>
      obtain ⟨h0, h1, h2, h3, _⟩ := h
      rw [h0, h1, show p + 2 = p + 1 + 1 from rfl, h2, show p + 3 = p + 1 + 1 + 1 from rfl, h3]
      exact (q_nv4 a c d e).symm
    | [], c, _ => exact absurd c (by simp)
    | [_], c, _ => exact absurd c (by simp)
    | [_, _], c, _ => exact absurd c (by simp)
    | [_, _, _], c, _ => exact absurd c (by simp)
  rw [e4]
  have lt4 : q_nv (l.take 4) < 4294967296 := by
    have := q_nvl (l.take 4)
    have e : 256 ^ (l.take 4).length ≤ 256 ^ 4 := Nat.pow_le_pow_right (by omega) (by rw [List.length_take]; omega)
    have : (256 : Nat) ^ 4 = 4294967296 := rfl
    omega
  generalize hN : q_nv (l.take 4) = N at *
  by_cases c2 : N < 2147483648
  rotate_left
  · have := iN_neg (a := N) (by omega) lt4
    rw [if_pos (Int32.lt_of_lt_of_le this (by decide)), if_neg (by omega)]
  simp (disch := omega) only [iN_a, iN_c, iN_le, iN_lt, iN_eq, iN_i]
  by_cases c3 : N < 5
  · rw [if_pos c3, if_neg (by omega)]
  rw [if_neg c3]
  by_cases c4 : N ≤ l.length
  rotate_left
  · rw [if_neg c4, if_neg (by omega)]
  have F := hf (l.take N) (sb_tk _ h) (by rw [List.length_take]; omega)
  rw [List.length_take, Nat.min_eq_left c4] at F
  rw [if_pos c4, F]
  cases hu : f row (l.take N) with
  | false => rw [if_pos (show b2i false = iN 0 from rfl), if_neg (by simp)]
  | true => rw [if_neg (by decide), if_pos ⟨c1, by omega, c4, rfl⟩]
theorem q_eov {fe : Int32 → Int32 → Int32 → Int32} {b : Nat → UInt8} {p : Nat} {k : UInt8} {l : List UInt8} {f : Bool → List UInt8 → Bool} {p3 : Int32} (h : sb b p l) (hp : p + l.length ≤ 2000)
    (hf : ∀ row, fe (b2i row) (iN p) (iN (p + l.length)) = match q_kn f row l with | none => -1 | some m => iN (p + m)) :
    tw_CH_endOfValue fe b (iN k.toNat) (iN p) (iN (p + l.length)) p3 = match q_kv f k l with | none => -1 | some m => iN (p + m) := by
  have kk := q_u8 k
  unfold tw_CH_endOfValue q_kv
  rw [show fe 0 (iN p) (iN (p + l.length)) = _ from hf false, show fe 1 (iN p) (iN (p + l.length)) = _ from hf true, q_et h hp]
  simp (disch := omega) only [i_1, i_2, i_3, i_4, i_8, i_10, i_16, i_18, iN_a, iN_c, iN_le, iN_lt, iN_eq, iN_i, iN_s, qk_2, qk_3, qk_4, qk_8, qk_10, qk_16, qk_18]
  rw [show p + l.length - p = l.length by omega]
  by_cases k2 : k = 2
  · subst k2
    rfl
  rw [if_neg k2, if_neg k2]
  by_cases k3 : k = 3
  · subst k3
    rfl
  rw [if_neg k3, if_neg k3]
  by_cases k4 : k = 4
  · subst k4
    rfl
  rw [if_neg k4, if_neg k4]
  by_cases k8 : k = 8
  · subst k8
    rw [if_pos rfl, if_pos rfl]
    by_cases c : l.length < 1
    · rw [if_pos c, if_neg (by omega)]
    · rw [if_neg c, q_at (by omega)]
      obtain ⟨y, r, rfl⟩ := List.exists_cons_of_ne_nil (show l ≠ [] by intro e; rw [e] at c; exact c Nat.one_pos)
      have uy := q_u8 y
      rw [h.1, List.headD_cons]
      simp (disch := omega) only [iN_a, iN_c, iN_le, iN_lt, iN_eq, iN_i]
      by_cases c2 : 1 < y.toNat
      · rw [if_pos c2, if_neg (by omega)]
      · rw [if_neg c2, if_pos ⟨by omega, by omega⟩]
  rw [if_neg k8, if_neg k8]
  by_cases k10 : k = 10
  · subst k10
    rfl
  rw [if_neg k10, if_neg k10]
  by_cases k16 : k = 16
  · subst k16
    rw [if_pos rfl, if_pos rfl]
    by_cases c : l.length < 4
    · rw [if_pos c, if_neg (by omega)]
    · rw [if_neg c, if_pos (by omega)]
  rw [if_neg k16, if_neg k16]
  by_cases k18 : k = 18
  · subst k18
    rw [if_pos rfl, if_pos rfl]
    by_cases c : l.length < 8
    · rw [if_pos c, if_neg (by omega)]
    · rw [if_neg c, if_pos (by omega)]
  rw [if_neg k18, if_neg k18]
theorem q_m1 : ¬ (0 : Int32) ≤ -1 := by decide
theorem q_p0 {a : Nat} (h : a < 2147483648) : (0 : Int32) ≤ iN a := by
  rw [i_0, iN_le (by omega) h]
  omega
theorem q_nl {fv : Int32 → Int32 → Int32 → Int32} {b : Nat → UInt8} {p0 L d : Nat} {row : Bool} {p3 : Int32} {f : Bool → List UInt8 → Bool} (hsd : ∀ row w, f row w = true → q_ok d (if row = true then 4 else 3) w) (hL : L < 2000)
    (hfv : ∀ (k : UInt8) (l : List UInt8) (p : Nat), sb b p l → L = p + l.length → fv (iN k.toNat) (iN p) (iN L) = match q_kv f k l with | none => -1 | some m => iN (p + m)) :
    ∀ (m : Nat) (l : List UInt8) (ps : List q_P) (e n i : Nat), sb b (p0 + 4) (q_en ps) → q_op d ps → sb b e l → e = p0 + 4 + (q_en ps).length → L = e + l.length → i = ps.length → (q_en ps).length + l.length ≤ 2000 → l.length < 2 * n → l.length ≤ m →
    tw_CH_isNest_h43 fv b (iN p0) (b2i row) p3 (iN L) n (iN e) (iN i) = (q_kp f row m i (ps.map (fun x => x.2.1)) l && decide (b L = 0)) := by
  intro m
  induction m with
  | zero =>
    intro l ps e n i h1 ho h2 he hl hi hs hn hm
    obtain ⟨n, rfl⟩ : ∃ m, n = m + 1 := ⟨n - 1, by omega⟩
    have : l = [] := List.eq_nil_of_length_eq_zero (by omega)
    subst this
    simp only [List.length_nil, Nat.add_zero] at hl
    have pl := q_psl ps
    unfold tw_CH_isNest_h43
    simp (disch := omega) only [i_1000, iN_a, iN_c, iN_le, iN_lt, iN_eq, iN_i]
    rw [hl, q_at (by omega)]
    simp only [i_0, q_y0]
    have kp : q_kp f row 0 i (ps.map (fun x => x.2.1)) [] = true := rfl
    rw [kp]
    by_cases z : b e = 0 <;> simp [z]
  | succ m ih =>
    intro l ps e n i h1 ho h2 he hl hi hs hn hm
    obtain ⟨n, rfl⟩ : ∃ m, n = m + 1 := ⟨n - 1, by omega⟩
    have pl := q_psl ps
    cases l with
    | nil =>
      simp only [List.length_nil, Nat.add_zero] at hl
      unfold tw_CH_isNest_h43
      simp (disch := omega) only [i_1000, iN_a, iN_c, iN_le, iN_lt, iN_eq, iN_i]
      rw [hl, q_at (by omega)]
      simp only [i_0, q_y0]
      have kp : q_kp f row (m + 1) i (ps.map (fun x => x.2.1)) [] = true := rfl
      rw [kp]
      by_cases z : b e = 0 <;> simp [z]
    | cons k r =>
      rw [List.length_cons] at *
      have hr := h2.2
      have eon := q_eon hr (by omega)
      rw [show e + 1 + r.length = L by omega] at eon
      unfold tw_CH_isNest_h43
      rw [q_at (b := b) (p := e) (by omega), h2.1]
      rw [show iN e + 1 = iN (e + 1) from iN_a e 1, eon]
      simp (disch := omega) only [i_1000, iN_a, iN_c, iN_le, iN_lt, iN_eq, iN_i]
      rw [if_neg (by omega), if_neg (by omega)]
      rw [q_kpc]
      by_cases c1 : (q_nw r).length = r.length
      · rw [if_pos c1, if_pos c1, if_neg q_m1]
        rfl
      rw [if_neg c1, if_neg c1, if_pos (q_p0 (by have := q_nwl r; omega))]
      have nl := q_nwl r
      have er := q_nwd c1
      have sn : sb b (e + 1) (q_nw r) := by
        have := hr
        rw [er] at this
        exact (sb_ap.1 this).1
      have sr : sb b (e + 1 + (q_nw r).length + 1) (r.drop ((q_nw r).length + 1)) := by
        have := sb_dr hr (show (q_nw r).length + 1 ≤ r.length by omega)
        rwa [← Nat.add_assoc] at this
      have lr : (r.drop ((q_nw r).length + 1)).length = r.length - ((q_nw r).length + 1) := List.length_drop
      have V := hfv k (r.drop ((q_nw r).length + 1)) (e + 1 + (q_nw r).length + 1) sr (by omega)
      rw [show iN (e + 1 + (q_nw r).length) + 1 = iN (e + 1 + (q_nw r).length + 1) from iN_a _ 1, V]
      have nn := q_inn (f := p0 + 4) (d := d) (ps := ps) (q := e) (nm := q_nw r) sn (by omega) h1 ho he (by omega)
      rw [show iN p0 + 4 = iN (p0 + 4) from iN_a p0 4, nn, q_ixi sn (by omega)]
      have tail : (if (0 : Int32) ≤ (match q_kv f k (r.drop ((q_nw r).length + 1)) with | none => (-1 : Int32) | some m => iN (e + 1 + (q_nw r).length + 1 + m)) then
            tw_CH_isNest_h43 fv b (iN p0) (b2i row) p3 (iN L) n (match q_kv f k (r.drop ((q_nw r).length + 1)) with | none => (-1 : Int32) | some m => iN (e + 1 + (q_nw r).length + 1 + m)) (iN i + 1) else false) =
          ((match q_kv f k (r.drop ((q_nw r).length + 1)) with | none => false | some j => q_kp f row m (i + 1) (ps.map (fun x => x.2.1) ++ [q_nw r]) ((r.drop ((q_nw r).length + 1)).drop j)) && decide (b L = 0)) := by
        cases hv : q_kv f k (r.drop ((q_nw r).length + 1)) with
        | none =>
          show (if (0 : Int32) ≤ -1 then _ else false) = _
          rw [if_neg q_m1]
          rfl
        | some j =>
          obtain ⟨j1, j2⟩ := q_kvok hsd hv
          show (if (0 : Int32) ≤ iN (e + 1 + (q_nw r).length + 1 + j) then _ else false) = _
          rw [if_pos (q_p0 (by omega)), show iN i + 1 = iN (i + 1) from iN_a i 1]
          have e1 : q_en (ps ++ [(k, q_nw r, (r.drop ((q_nw r).length + 1)).take j)]) = q_en ps ++ (k :: (q_nw r ++ 0 :: (r.drop ((q_nw r).length + 1)).take j)) := by
            rw [q_ena]
            show q_en ps ++ (q_e1 _ ++ []) = _
            rw [List.append_nil]
            rfl
          have e2 : (q_en (ps ++ [(k, q_nw r, (r.drop ((q_nw r).length + 1)).take j)])).length = (q_en ps).length + ((q_nw r).length + 2 + j) := by
            rw [e1, List.length_append, List.length_cons, List.length_append, List.length_cons, List.length_take]
            omega
          have := ih ((r.drop ((q_nw r).length + 1)).drop j) (ps ++ [(k, q_nw r, (r.drop ((q_nw r).length + 1)).take j)]) (e + 1 + (q_nw r).length + 1 + j) n (i + 1) ?_ ?_ (sb_dr sr j1) (by omega) ?_ ?_ ?_ ?_ ?_
          · rw [this, List.map_append]
            rfl
          · rw [e1]
            refine sb_ap.2 ⟨h1, ?_⟩
            rw [← he]
            refine ⟨h2.1, sb_ap.2 ⟨sn, ?_, sb_tk _ sr⟩⟩
            have := hr
            rw [er] at this
            exact (sb_ap.1 this).2.1
          · intro x hx
            rcases List.mem_append.1 hx with hx | hx
            · exact ho x hx
            · rw [List.mem_singleton] at hx
              subst hx
              exact ⟨q_nw0 r, j2⟩
          · rw [List.length_drop]
            omega
          · rw [List.length_append]
            simp
            omega
          · rw [e2, List.length_drop]
            omega
          · rw [List.length_drop]
            omega
          · rw [List.length_drop]
            omega
      rw [tail]
      cases row with
      | false =>
        rw [if_pos (show b2i false = 0 from rfl)]
        simp only [Bool.false_eq_true, if_false]
        by_cases c2 : q_ut (q_nw r) = true ∧ q_nw r ∉ ps.map (fun x => x.2.1)
        · rw [decide_eq_true c2, if_neg (by decide), if_pos c2]
          rfl
        · rw [decide_eq_false c2, if_pos (by decide), if_neg c2]
          rfl
      | true =>
        rw [if_neg (show ¬ b2i true = 0 by decide)]
        simp only [if_true]
        have i1000 : i < 1000 := by omega
        by_cases c2 : q_nw r = q_dg i
        · rw [if_pos c2, (q_ixd i1000).2 c2, if_pos rfl]
          rfl
        · rw [if_neg c2]
          cases hx : q_ix (q_nw r) with
          | none =>
            show (if (-1 : Int32) = iN i then _ else false) = _
            rw [if_neg]
            · rfl
            · intro z
              have := q_p0 (a := i) (by omega)
              rw [← z] at this
              exact q_m1 this
          | some j =>
            show (if iN j = iN i then _ else false) = _
            have jl : j < 100000 := q_ixl hx
            rw [if_neg]
            · rfl
            · intro z
              have : j = i := (iN_eq (by omega) (by omega)).1 z
              exact c2 ((q_ixd i1000).1 (this ▸ hx))
theorem q_nst {b : Nat → UInt8} : ∀ (n D p : Nat) (row : Bool) (w : List UInt8), D + n = 17 → sb b p w → p + w.length ≤ 2000 → tw_CH_nest n b (iN p) (iN (p + w.length)) (b2i row) (iN D) = q_kb n row w := by
  intro n
  induction n with
  | zero =>
    intro D p row w hD h hp
    unfold tw_CH_nest tw_CH_isNest
    rw [if_pos (by simp (disch := omega) only [i_16, iN_a, iN_c, iN_le, iN_lt, iN_eq, iN_i]; omega)]
    rfl
  | succ n ih =>
    intro D p row w hD h hp
    unfold tw_CH_nest tw_CH_isNest q_kb
    simp (disch := omega) only [i_5, i_16, i_1000, i_0, i_1, i_4, iN_a, iN_c, iN_le, iN_lt, iN_eq, iN_i, iN_s]
    rw [if_neg (by omega), show p + w.length - p = w.length by omega]
    by_cases c1 : w.length < 5
    · rw [if_pos c1, decide_eq_false (by omega)]
      rfl
    rw [if_neg c1, q_int (by omega)]
    have e4 : q_g4 (b p) (b (p + 1)) (b (p + 2)) (b (p + 3)) = q_nv (w.take 4) := by
      match w, c1, h with
      | a :: c :: d :: e :: r, _, h =>
        obtain ⟨h0, h1, h2, h3, _⟩ := h
        rw [h0, h1, show p + 2 = p + 1 + 1 from rfl, h2, show p + 3 = p + 1 + 1 + 1 from rfl, h3]
        exact (q_nv4 a c d e).symm
      | [], c, _ => exact absurd c (by simp)
      | [_], c, _ => exact absurd c (by simp)
      | [_, _], c, _ => exact absurd c (by simp)
      | [_, _, _], c, _ => exact absurd c (by simp)
    rw [e4]
    have lt4 : q_nv (w.take 4) < 4294967296 := by
      have := q_nvl (w.take 4)
      have e : 256 ^ (w.take 4).length ≤ 256 ^ 4 := Nat.pow_le_pow_right (by omega) (by rw [List.length_take]; omega)
      have : (256 : Nat) ^ 4 = 4294967296 := rfl
      omega
    have cmp : (iN (q_nv (w.take 4)) = iN w.length) = (q_nv (w.take 4) = w.length) := by
      refine propext ⟨fun z => ?_, fun z => by rw [z]⟩
      have := congrArg (fun t : Int32 => t.toBitVec.toNat) z
      simp only [q_bv] at this
      omega
    by_cases c2 : q_nv (w.take 4) = w.length
    rotate_left
    · rw [if_neg (fun z => c2 (Eq.mp cmp z)), decide_eq_false (by omega)]
      rfl
    rw [if_pos (Eq.mpr cmp c2), decide_eq_true (by omega)]
    have tl : (q_tt w).length = w.length - 5 := by
      unfold q_tt
      rw [List.length_dropLast, List.length_drop]
      omega
    have st : sb b (p + 4) (q_tt w) := by
      unfold q_tt
      rw [List.dropLast_eq_take]
      exact sb_tk _ (sb_dr h (by omega))
    have key := q_nl (p0 := p) (L := p + w.length - 1) (d := n) (row := row) (p3 := iN D) (f := q_kb n) (fv := fun x y z => tw_CH_endOfValue (fun x y z => tw_CH_endOfNest (fun x y z => tw_CH_nest n b x y z (iN (D + 1))) b x y z (iN D)) b x y z (iN D)) (b := b)
      (q_kbok n) (by omega) ?_ w.length (q_tt w) [] (p + 4) 1001 0 trivial (fun x hx => by cases hx) st rfl (by omega) rfl (by rw [tl]; show 0 + _ ≤ _; omega) (by omega) (by omega)
    · rw [Bool.true_and]
      have lb : decide (b (p + w.length - 1) = 0) = decide (w.getD (w.length - 1) 1 = 0) := by
        have := sb_g (i := w.length - 1) h (by omega)
        rw [List.getD_eq_getElem?_getD, List.getElem?_eq_getElem (by omega), show p + w.length - 1 = p + (w.length - 1) by omega, this]
        rfl
      rw [lb, Bool.and_comm] at key
      exact key
    · intro k l q s1 hq
      rw [hq]
      refine q_eov s1 (by omega) (fun row => ?_)
      refine q_enst s1 (by omega) (fun u s2 b2 => ?_)
      exact ih (D + 1) q row u (by omega) s2 (by omega)
