/-! the pure part: right UTF-8 -/
def q_sp (h s : Nat) : Bool := decide ((h = 224 ∧ s < 160) ∨ (h = 240 ∧ s < 144) ∨ (h = 237 ∧ 159 < s) ∨ (h = 244 ∧ 143 < s))
def q_ct (y : UInt8) : Bool := decide (128 ≤ y.toNat) && decide (y.toNat < 192)
def q_un (h : Nat) : Nat := if h < 194 ∨ 244 < h then 0 else if h < 224 then 2 else if h < 240 then 3 else 4
def q_u2 (h n : Nat) (t : List UInt8) : Nat :=
  if n = 0 ∨ t.length + 1 < n then 0
  else if (t.take (n - 1)).all q_ct = true ∧ q_sp h (t.headD 0).toNat = false then n else 0
/-- how many bytes the first character has; 0 when there is no right one -/
def q_u1 : List UInt8 → Nat
  | [] => 0
  | h :: t => if h.toNat < 128 then 1 else q_u2 h.toNat (q_un h.toNat) t
def q_us : Nat → List UInt8 → Bool
  | _, [] => true
  | 0, _ :: _ => false
  | n + 1, x :: l => if q_u1 (x :: l) = 0 then false else q_us n ((x :: l).drop (q_u1 (x :: l)))
def q_ut (l : List UInt8) : Bool := q_us l.length l
theorem q_u1c (h : UInt8) (t : List UInt8) : q_u1 (h :: t) = if h.toNat < 128 then 1 else q_u2 h.toNat (q_un h.toNat) t := rfl
theorem q_un4 (h : Nat) : q_un h = 0 ∨ q_un h = 2 ∨ q_un h = 3 ∨ q_un h = 4 := by
  unfold q_un
  repeat' split
  all_goals simp
theorem q_u1l (l : List UInt8) : q_u1 l ≤ l.length := by
  cases l with
  | nil => exact Nat.le_refl _
  | cons h t =>
    rw [q_u1c]
    split
    · rw [List.length_cons]
      omega
    · unfold q_u2
      rw [List.length_cons]
      repeat' split
      all_goals omega
theorem q_usm : ∀ (n m : Nat) (l : List UInt8), l.length ≤ n → l.length ≤ m → q_us n l = q_us m l := by
  intro n
  induction n with
  | zero =>
    intro m l hn _
    have : l = [] := List.eq_nil_of_length_eq_zero (by omega)
    subst this
    cases m <;> rfl
  | succ n ih =>
    intro m l hn hm
    cases l with
    | nil => cases m <;> rfl
    | cons x l =>
      rw [List.length_cons] at hn hm
      obtain ⟨m, rfl⟩ : ∃ j, m = j + 1 := ⟨m - 1, by omega⟩
      unfold q_us
      split
      · rfl
      · next h0 =>
        exact ih m _ (by rw [List.length_drop, List.length_cons]; omega) (by rw [List.length_drop, List.length_cons]; omega)
theorem q_c192 (y : UInt8) : (iN y.toNat &&& iN 192 = iN 128) = (q_ct y = true) := by
  have := q_all (P := fun y => (iN y.toNat &&& iN 192 = iN 128) ↔ (q_ct y = true)) (by decide +kernel) y
  exact propext this
/-- the class: one character -/
theorem q_lce {b : Nat → UInt8} {p h x4 n x5 : Nat} (hp : p + 1 < 202000) (hh : h < 256) (h4 : x4 < 1000) (h5 : x5 < 1000) (hx : x4 ≤ x5) :
    tw_CH_lengthOfCharacter_h72 b (iN p) (iN h) (iN x4) (n + 1) (iN x5) = iN (if q_sp h (b (p + 1)).toNat = true then 0 else x4) := by
  have := q_u8 (b (p + 1))
  unfold tw_CH_lengthOfCharacter_h72
  rw [show iN p + 1 = iN (p + 1) from iN_a p 1, q_at hp]
  simp (disch := omega) only [i_0, i_1, i_143, i_144, i_159, i_160, i_224, i_237, i_240, i_244, i_192, i_128, iN_a, iN_c, iN_le, iN_lt, iN_eq, iN_i]
  rw [if_pos hx]
  unfold q_sp
  by_cases a1 : h = 224
  · subst a1
    simp
    split <;> simp_all
  · by_cases a2 : h = 240
    · subst a2
      simp
      by_cases s2 : 144 ≤ (b (p + 1)).toNat
      · have : ¬ (b (p + 1)).toNat < 144 := by omega
        simp [s2, this]
      · have : (b (p + 1)).toNat < 144 := by omega
        simp [s2, this]
    · by_cases a3 : h = 237
      · subst a3
        simp
        split <;> simp_all
      · by_cases a4 : h = 244
        · subst a4
          simp
          by_cases s2 : (b (p + 1)).toNat ≤ 143
          · have : ¬ 143 < (b (p + 1)).toNat := by omega
            simp [s2, this]
          · have : 143 < (b (p + 1)).toNat := by omega
            simp [s2, this]
        · simp [a1, a2, a3, a4]
theorem q_lcs {b : Nat → UInt8} {p h x4 n x5 : Nat} (hp : p + x5 < 202000) (h4 : x4 < 1000) (h5 : x5 < 1000) (hx : x5 < x4) :
    tw_CH_lengthOfCharacter_h72 b (iN p) (iN h) (iN x4) (n + 1) (iN x5) = if q_ct (b (p + x5)) = true then tw_CH_lengthOfCharacter_h72 b (iN p) (iN h) (iN x4) n (iN (x5 + 1)) else iN 0 := by
  conv => lhs; unfold tw_CH_lengthOfCharacter_h72
  rw [if_neg (by simp (disch := omega) only [iN_a, iN_c, iN_le, iN_lt, iN_eq, iN_i]; omega), show iN p + iN x5 = iN (p + x5) from iN_a p x5, q_at hp]
  simp only [i_192, i_128, i_1, q_c192, iN_a]
  rfl
theorem q_lch {b : Nat → UInt8} {p : Nat} {l : List UInt8} (h : sb b p l) (hl : l ≠ []) (hp : p + l.length < 202000) : tw_CH_lengthOfCharacter b (iN p) (iN (p + l.length)) = iN (q_u1 l) := by
  cases l with
  | nil => exact absurd rfl hl
  | cons x t =>
    rw [List.length_cons] at *
    have hx := q_u8 x
    unfold tw_CH_lengthOfCharacter
    rw [q_at (by omega), h.1]
    simp (disch := omega) only [i_0, i_1, i_2, i_3, i_4, i_128, i_194, i_224, i_240, i_244, iN_a, iN_c, iN_le, iN_lt, iN_eq, iN_i, iN_s]
    have e : p + (t.length + 1) - p = t.length + 1 := by omega
    rw [e, q_u1c]
    by_cases a : x.toNat < 128
    · rw [if_neg (by omega), if_pos a]
    · rw [if_pos (by omega), if_neg a]
      have g : ∀ i, i < t.length → b (p + (i + 1)) = t.getD i 0 := by
        intro i hi
        have := sb_g h.2 hi
        rw [show p + (i + 1) = p + 1 + i by omega, this, List.getD_eq_getElem?_getD, List.getElem?_eq_getElem hi]
        rfl
      by_cases a1 : x.toNat < 194
      · rw [if_pos a1]
        unfold q_u2 q_un
        rw [if_pos (Or.inl a1), if_pos (Or.inl rfl)]
      · rw [if_neg a1]
        by_cases a2 : x.toNat ≤ 244
        · rw [if_pos a2]
          by_cases a3 : 224 ≤ x.toNat
          · rw [if_pos a3]
            by_cases a4 : 240 ≤ x.toNat
            · have un : q_un x.toNat = 4 := by
                unfold q_un
                rw [if_neg (by omega), if_neg (by omega), if_neg (by omega)]
              rw [if_pos a4, un]
              unfold q_u2
              by_cases a5 : 4 ≤ t.length + 1
              · rw [if_pos a5, if_neg (by omega)]
                match t, a5, g with
                | y0 :: y1 :: y2 :: r, a5, g =>
                  simp only [List.length_cons] at *
                  have g0 := g 0 (by omega)
                  have g1 := g 1 (by omega)
                  have g2 := g 2 (by omega)
                  show tw_CH_lengthOfCharacter_h72 b (iN p) (iN x.toNat) (iN 4) 4 (iN 1) = _
                  rw [q_lcs (by omega) (by omega) (by omega) (by omega), q_lcs (by omega) (by omega) (by omega) (by omega), q_lcs (by omega) (by omega) (by omega) (by omega), q_lce (by omega) hx (by omega) (by omega) (by omega)]
                  simp only [Nat.zero_add, Nat.reduceAdd, List.getD_cons_zero, List.getD_cons_succ] at g0 g1 g2 ⊢
                  rw [g0, g1, g2]
                  by_cases c0 : q_ct y0 = true
                  · by_cases c1 : q_ct y1 = true
                    · by_cases c2 : q_ct y2 = true
                      · by_cases c3 : q_sp x.toNat y0.toNat <;> simp [c0, c1, c2, c3]
                      · simp [c0, c1, c2]
                    · simp [c0, c1]
                  · simp [c0]
              · rw [if_neg a5, if_pos (Or.inr (by omega))]
            · have un : q_un x.toNat = 3 := by
                unfold q_un
                rw [if_neg (by omega), if_neg (by omega), if_pos (by omega)]
              rw [if_neg a4, un]
              unfold q_u2
              by_cases a5 : 3 ≤ t.length + 1
              · rw [if_pos a5, if_neg (by omega)]
                match t, a5, g with
                | y0 :: y1 :: r, a5, g =>
                  simp only [List.length_cons] at *
                  have g0 := g 0 (by omega)
                  have g1 := g 1 (by omega)
                  show tw_CH_lengthOfCharacter_h72 b (iN p) (iN x.toNat) (iN 3) 3 (iN 1) = _
                  rw [q_lcs (by omega) (by omega) (by omega) (by omega), q_lcs (by omega) (by omega) (by omega) (by omega), q_lce (by omega) hx (by omega) (by omega) (by omega)]
                  simp only [Nat.zero_add, Nat.reduceAdd, List.getD_cons_zero, List.getD_cons_succ] at g0 g1 ⊢
                  rw [g0, g1]
                  by_cases c0 : q_ct y0 = true
                  · by_cases c1 : q_ct y1 = true
                    · by_cases c3 : q_sp x.toNat y0.toNat <;> simp [c0, c1, c3]
                    · simp [c0, c1]
                  · simp [c0]
              · rw [if_neg a5, if_pos (Or.inr (by omega))]
          · have un : q_un x.toNat = 2 := by
              unfold q_un
              rw [if_neg (by omega), if_pos (by omega)]
            rw [if_neg a3, un]
            unfold q_u2
            by_cases a5 : 2 ≤ t.length + 1
            · rw [if_pos a5, if_neg (by omega)]
              match t, a5, g with
              | y0 :: r, a5, g =>
                simp only [List.length_cons] at *
                have g0 := g 0 (by omega)
                show tw_CH_lengthOfCharacter_h72 b (iN p) (iN x.toNat) (iN 2) 2 (iN 1) = _
                rw [q_lcs (by omega) (by omega) (by omega) (by omega), q_lce (by omega) hx (by omega) (by omega) (by omega)]
                simp only [Nat.zero_add, Nat.reduceAdd, List.getD_cons_zero, List.getD_cons_succ] at g0 ⊢
                rw [g0]
                by_cases c0 : q_ct y0 = true
                · by_cases c3 : q_sp x.toNat y0.toNat <;> simp [c0, c3]
                · simp [c0]
            · rw [if_neg a5, if_pos (Or.inr (by omega))]
        · have un : q_un x.toNat = 0 := by
            unfold q_un
            rw [if_pos (Or.inr (by omega))]
          rw [if_neg a2, un]
          unfold q_u2
          rw [if_pos (Or.inl rfl)]
theorem sb_dr {b : Nat → UInt8} {p n : Nat} {l : List UInt8} (h : sb b p l) (hn : n ≤ l.length) : sb b (p + n) (l.drop n) := by
  have e := (List.take_append_drop n l)
  rw [← e] at h
  have := (sb_ap.1 h).2
  rwa [List.length_take, Nat.min_eq_left hn] at this
theorem sm_dr {b : Nat → Int32} {p n : Nat} {l : List UInt8} (h : sm b p l) (hn : n ≤ l.length) : sm b (p + n) (l.drop n) := by
  have e := (List.take_append_drop n l)
  rw [← e] at h
  have := (sm_ap.1 h).2
  rwa [List.length_take, Nat.min_eq_left hn] at this
theorem sb_tk {b : Nat → UInt8} {p : Nat} {l : List UInt8} (n : Nat) (h : sb b p l) : sb b p (l.take n) := by
  rw [← List.take_append_drop n l] at h
  exact (sb_ap.1 h).1
theorem sm_tk {b : Nat → Int32} {p : Nat} {l : List UInt8} (n : Nat) (h : sm b p l) : sm b p (l.take n) := by
  rw [← List.take_append_drop n l] at h
  exact (sm_ap.1 h).1
theorem q_us_h {b : Nat → UInt8} {P : Nat} : ∀ (n m x i : Nat) (l : List UInt8), sb b x l → P = x + l.length → P < 202000 → i ≤ x → P - i < n → l.length ≤ m → tw_CH_isUtf8_h5 b (iN P) n (iN x) (iN i) = q_us m l := by
  intro n
  induction n with
  | zero =>
    intro m x i l _ _ _ _ hn
    omega
  | succ n ih =>
    intro m x i l h hP hp hi hn hm
    unfold tw_CH_isUtf8_h5
    cases l with
    | nil =>
      simp only [List.length_nil, Nat.add_zero] at *
      have : q_us m [] = true := by cases m <;> rfl
      simp (disch := omega) only [iN_a, iN_c, iN_le, iN_lt, iN_eq, iN_i]
      rw [this, hP]
      simp
    | cons y l =>
      have ne : y :: l ≠ [] := by simp
      have lc := q_lch (b := b) h ne (by omega)
      rw [← hP] at lc
      rw [lc]
      have u1 := q_u1l (y :: l)
      rw [List.length_cons] at *
      obtain ⟨m, rfl⟩ : ∃ j, m = j + 1 := ⟨m - 1, by omega⟩
      simp (disch := omega) only [i_0, i_1, iN_a, iN_c, iN_le, iN_lt, iN_eq, iN_i]
      rw [if_neg (by omega), if_neg (by omega)]
      unfold q_us
      by_cases z : q_u1 (y :: l) = 0
      · rw [if_pos z, if_pos z]
      · rw [if_neg z, if_neg z]
        refine ih m _ _ _ (sb_dr h (by rw [List.length_cons]; omega)) ?_ hp (by omega) (by omega) ?_
        · rw [List.length_drop, List.length_cons]
          omega
        · rw [List.length_drop, List.length_cons]
          omega
theorem q_ut8 {b : Nat → UInt8} {p : Nat} {l : List UInt8} (h : sb b p l) (hp : p + l.length < 202000) : tw_CH_isUtf8 b (iN p) (iN (p + l.length)) = q_ut l := by
  unfold tw_CH_isUtf8 q_ut
  simp (disch := omega) only [iN_a, iN_c, iN_le, iN_lt, iN_eq, iN_i]
  exact q_us_h _ _ p p l h rfl hp (by omega) (by omega) (Nat.le_refl _)
/-- the reference: one character -/
theorem r_r16 {fu : Nat} {K : Int32 → Option Int32} {st : Nat → Int32} {x1 x2 : Int32} {h : Nat} (hh : h < 256) : tw_MO_character_r16 fu K st x1 x2 (iN h) = K (iN (q_un h)) := by
  unfold tw_MO_character_r16
  simp (disch := omega) only [i_0, i_2, i_3, i_4, i_193, i_223, i_224, i_239, i_240, i_245, iN_a, iN_c, iN_le, iN_lt, iN_eq, iN_i]
  unfold q_un
  by_cases a : h < 194 ∨ 244 < h
  · rw [if_pos a]
    rcases a with a | a
    · have b1 : h ≤ 193 := by omega
      have b2 : h ≤ 223 := by omega
      have b3 : h ≤ 239 := by omega
      simp [b1, b2, b3]
    · have b1 : ¬ h ≤ 193 := by omega
      have b2 : ¬ h ≤ 223 := by omega
      have b3 : ¬ h ≤ 239 := by omega
      have b4 : 224 ≤ h := by omega
      have b5 : 240 ≤ h := by omega
      have b6 : 245 ≤ h := by omega
      simp [b1, b2, b3, b4, b5, b6]
  · rw [if_neg a]
    have b1 : ¬ h ≤ 193 := by omega
    have b6 : ¬ 245 ≤ h := by omega
    by_cases c1 : h < 224
    · have b4 : ¬ 224 ≤ h := by omega
      simp [b1, b4, c1]
    · have b4 : 224 ≤ h := by omega
      have b2 : ¬ h ≤ 223 := by omega
      by_cases c2 : h < 240
      · have b5 : ¬ 240 ≤ h := by omega
        simp [b1, b2, b4, b5, c1, c2]
      · have b5 : 240 ≤ h := by omega
        have b3 : ¬ h ≤ 239 := by omega
        simp [b1, b2, b3, b4, b5, b6, c1, c2]
theorem r_r98 {fu : Nat} {K : Bool → Option Int32} {st : Nat → Int32} {x1 x4 : Int32} {h s : Nat} (hh : h < 256) (hs : s < 256) : tw_MO_character_r98 fu K st x1 (iN h) x4 (iN s) = K (!q_sp h s) := by
  unfold tw_MO_character_r98 q_sp
  simp (disch := omega) only [i_143, i_144, i_159, i_160, i_224, i_237, i_240, i_244, iN_a, iN_c, iN_le, iN_lt, iN_eq, iN_i]
  by_cases a1 : h = 224
  · subst a1
    by_cases s1 : s < 160 <;> simp [s1]
  · by_cases a2 : h = 240
    · subst a2
      by_cases s1 : s < 144 <;> simp [s1]
    · by_cases a3 : h = 237
      · subst a3
        by_cases s1 : 159 < s <;> simp [s1]
      · by_cases a4 : h = 244
        · subst a4
          by_cases s1 : 143 < s <;> simp [s1]
        · simp [a1, a2, a3, a4]
theorem r_h168 {fu : Nat} {K : Bool → Int32 → Option Int32} {st : Nat → Int32} {p N : Nat} (hN : N ≤ 4) : ∀ (t : List UInt8) (j n : Nat) (g : Bool), sm st (p + j) t → j + t.length = N → p + N ≤ 136400 → t.length < n →
    tw_MO_character_h168 fu K st (iN p) (iN N) n g (iN j) = K (g && t.all q_ct) (iN N) := by
  intro t
  induction t with
  | nil =>
    intro j n g _ hj hp hn
    obtain ⟨n, rfl⟩ : ∃ m, n = m + 1 := ⟨n - 1, by omega⟩
    simp only [List.length_nil, Nat.add_zero] at hj
    unfold tw_MO_character_h168
    rw [if_pos (by simp (disch := omega) only [iN_a, iN_c, iN_le, iN_lt, iN_eq, iN_i]; omega), hj]
    simp
  | cons y t ih =>
    intro j n g h hj hp hn
    obtain ⟨n, rfl⟩ : ∃ m, n = m + 1 := ⟨n - 1, by omega⟩
    rw [List.length_cons] at hj hn
    have hy := q_u8 y
    unfold tw_MO_character_h168
    rw [if_neg (by simp (disch := omega) only [iN_a, iN_c, iN_le, iN_lt, iN_eq, iN_i]; omega)]
    unfold tw_MO_character_r175
    have IH := fun g => ih (j + 1) n g (by rw [← Nat.add_assoc]; exact h.2) (by omega) hp (by omega)
    rw [show iN j + 1 = iN (j + 1) from iN_a j 1]
    simp only [IH]
    cases g with
    | false =>
      rw [if_pos (show b2i false = 0 from rfl)]
      rfl
    | true =>
      rw [if_neg (by decide)]
      simp (disch := omega) only [i_0, i_127, i_192, i_136400, iN_a, iN_c, iN_le, iN_lt, iN_eq, iN_i]
      rw [if_pos ⟨by omega, by omega⟩, h.1]
      simp (disch := omega) only [iN_a, iN_c, iN_le, iN_lt, iN_eq, iN_i]
      rw [List.all_cons]
      unfold q_ct
      by_cases a : y.toNat ≤ 127
      · have : ¬ 128 ≤ y.toNat := by omega
        simp [a, this]
      · by_cases a2 : 192 ≤ y.toNat
        · have : ¬ y.toNat < 192 := by omega
          simp [a, a2, this]
        · have b1 : 128 ≤ y.toNat := by omega
          have b2 : y.toNat < 192 := by omega
          simp [a, a2, b1, b2]
theorem r_ch {fu : Nat} {st : Nat → Int32} {p : Nat} {l : List UInt8} (h : sm st p l) (hl : l ≠ []) (hp : p + l.length < 136400) (hf : 10 ≤ fu) : tw_MO_character fu st (iN p) (iN (p + l.length)) = some (iN (q_u1 l)) := by
  cases l with
  | nil => exact absurd rfl hl
  | cons x t =>
    rw [List.length_cons] at *
    have hx := q_u8 x
    unfold tw_MO_character
    simp (disch := omega) only [i_0, i_1, i_128, i_136400, iN_a, iN_c, iN_le, iN_lt, iN_eq, iN_i, h.1]
    rw [if_pos ⟨by omega, by omega⟩, q_u1c]
    by_cases a : x.toNat < 128
    · rw [if_neg (by omega), if_pos a]
    · rw [if_pos (by omega), if_neg a, r_r16 hx]
      have u4 := q_un4 x.toNat
      unfold q_u2
      by_cases u0 : q_un x.toNat = 0
      · rw [u0, if_pos rfl, if_pos (Or.inl rfl)]
      · have un : q_un x.toNat ≤ 4 := by omega
        simp (disch := omega) only [iN_a, iN_c, iN_le, iN_lt, iN_eq, iN_i]
        rw [if_neg u0]
        by_cases a5 : p + q_un x.toNat ≤ p + (t.length + 1)
        · rw [if_pos a5, if_pos ⟨by omega, by omega⟩, if_neg (by omega)]
          have t1 : t ≠ [] := by
            intro e
            rw [e] at a5
            simp at a5
            omega
          obtain ⟨y, r, rfl⟩ := List.exists_cons_of_ne_nil t1
          have hy := q_u8 y
          rw [h.2.1, r_r98 hx hy]
          rw [r_h168 un ((y :: r).take (q_un x.toNat - 1)) 1 fu _ (sm_tk _ h.2) (by rw [List.length_take]; omega) (by omega) (by rw [List.length_take]; omega)]
          by_cases c3 : q_sp x.toNat y.toNat = true
          · rw [if_pos (show b2i (!q_sp x.toNat y.toNat && ((y :: r).take (q_un x.toNat - 1)).all q_ct) = iN 0 by rw [c3]; rfl)]
            exact congrArg (fun z => some (iN z)) (if_neg (fun z => by have q := z.2; rw [List.headD_cons, c3] at q; cases q)).symm
          · have c3 : q_sp x.toNat y.toNat = false := by
              cases q : q_sp x.toNat y.toNat
              · rfl
              · exact absurd q c3
            by_cases c4 : ((y :: r).take (q_un x.toNat - 1)).all q_ct = true
            · rw [if_neg (show ¬ b2i (!q_sp x.toNat y.toNat && ((y :: r).take (q_un x.toNat - 1)).all q_ct) = iN 0 by rw [c3, c4]; decide)]
              exact congrArg (fun z => some (iN z)) (if_pos ⟨c4, c3⟩).symm
            · have c5 : ((y :: r).take (q_un x.toNat - 1)).all q_ct = false := by
                cases q : ((y :: r).take (q_un x.toNat - 1)).all q_ct
                · rfl
                · exact absurd q c4
              rw [if_pos (show b2i (!q_sp x.toNat y.toNat && ((y :: r).take (q_un x.toNat - 1)).all q_ct) = iN 0 by rw [c3, c5]; rfl)]
              exact congrArg (fun z => some (iN z)) (if_neg (fun z => c4 z.1)).symm
        · rw [if_neg a5, if_pos (Or.inr (by omega))]
theorem r_us_h {fu : Nat} {K : Int32 → Int32 → Option Bool} {st : Nat → Int32} {P : Nat} (hK : ∀ x y, K x y = if x = iN P then some true else some false) (hf : 10 ≤ fu) :
    ∀ (n m x c : Nat) (l : List UInt8), sm st x l → P = x + l.length → P < 136400 → l.length < n → l.length ≤ m → 0 < c → c < 1000 → tw_MO_isRightText_h5 fu K st (iN P) n (iN x) (iN c) = some (q_us m l) := by
  intro n
  induction n with
  | zero =>
    intro m x c l _ _ _ hn
    omega
  | succ n ih =>
    intro m x c l h hP hp hn hm hc hc2
    unfold tw_MO_isRightText_h5
    cases l with
    | nil =>
      simp only [List.length_nil, Nat.add_zero] at *
      have : q_us m [] = true := by cases m <;> rfl
      rw [if_pos (by simp (disch := omega) only [iN_a, iN_c, iN_le, iN_lt, iN_eq, iN_i]; omega), this, hK, hP, if_pos rfl]
    | cons y l =>
      have ne : y :: l ≠ [] := by simp
      have lc := r_ch (fu := fu) h ne (by omega) hf
      rw [← hP] at lc
      rw [lc]
      have u1 := q_u1l (y :: l)
      have u4 : q_u1 (y :: l) < 1000 := by
        rw [q_u1c]
        unfold q_u2
        have := q_un4 y.toNat
        repeat' split
        all_goals omega
      rw [List.length_cons] at *
      obtain ⟨m, rfl⟩ : ∃ j, m = j + 1 := ⟨m - 1, by omega⟩
      simp only [ob1]
      simp (disch := omega) only [i_0, iN_a, iN_c, iN_le, iN_lt, iN_eq, iN_i]
      rw [if_neg (by omega), if_neg (by omega)]
      unfold q_us
      by_cases z : q_u1 (y :: l) = 0
      · rw [if_pos z, z]
        obtain ⟨n, rfl⟩ : ∃ j, n = j + 1 := ⟨n - 1, by omega⟩
        unfold tw_MO_isRightText_h5
        rw [if_neg (by simp (disch := omega) only [iN_a, iN_c, iN_le, iN_lt, iN_eq, iN_i]; omega), if_pos (by decide), hK, if_neg (by simp (disch := omega) only [iN_a, iN_c, iN_le, iN_lt, iN_eq, iN_i]; omega)]
      · rw [if_neg z]
        refine ih m _ _ _ (sm_dr h (by rw [List.length_cons]; omega)) ?_ hp ?_ ?_ (by omega) u4
        · rw [List.length_drop, List.length_cons]
          omega
        · rw [List.length_drop, List.length_cons]
          omega
        · rw [List.length_drop, List.length_cons]
          omega
theorem r_ut {fu : Nat} {st : Nat → Int32} {p : Nat} {l : List UInt8} (h : sm st p l) (hp : p + l.length < 136400) (hf : l.length + 10 ≤ fu) : tw_MO_isRightText fu st (iN p) (iN (p + l.length)) = some (q_ut l) := by
  unfold tw_MO_isRightText q_ut
  exact r_us_h (fun _ _ => rfl) (by omega) fu _ p 1 l h rfl hp (by omega) (Nat.le_refl _) (by omega) (by omega)
