/-! the pure part: what is a document -/
def q_nw (r : List UInt8) : List UInt8 := r.takeWhile (fun x => x != 0)
def q_kt (l : List UInt8) : Option Nat :=
  if 5 ≤ l.length ∧ 1 ≤ q_nv (l.take 4) ∧ q_nv (l.take 4) + 4 ≤ l.length ∧ l.getD (q_nv (l.take 4) + 3) 1 = 0 ∧ q_ut ((l.drop 4).take (q_nv (l.take 4) - 1)) = true then some (4 + q_nv (l.take 4)) else none
def q_kn (f : Bool → List UInt8 → Bool) (row : Bool) (l : List UInt8) : Option Nat :=
  if 5 ≤ l.length ∧ 5 ≤ q_nv (l.take 4) ∧ q_nv (l.take 4) ≤ l.length ∧ f row (l.take (q_nv (l.take 4))) = true then some (q_nv (l.take 4)) else none
def q_kv (f : Bool → List UInt8 → Bool) (k : UInt8) (l : List UInt8) : Option Nat :=
  if k = 2 then q_kt l else if k = 3 then q_kn f false l else if k = 4 then q_kn f true l
  else if k = 8 then (if 1 ≤ l.length ∧ (l.headD 2).toNat ≤ 1 then some 1 else none)
  else if k = 10 then some 0
  else if k = 16 then (if 4 ≤ l.length then some 4 else none)
  else if k = 18 then (if 8 ≤ l.length then some 8 else none) else none
def q_kp (f : Bool → List UInt8 → Bool) (row : Bool) : Nat → Nat → List (List UInt8) → List UInt8 → Bool
  | _, _, _, [] => true
  | 0, _, _, _ :: _ => false
  | n + 1, i, seen, k :: r =>
    if (q_nw r).length = r.length then false
    else if (if row = true then q_nw r = q_dg i else q_ut (q_nw r) = true ∧ q_nw r ∉ seen) then
      match q_kv f k (r.drop ((q_nw r).length + 1)) with
      | none => false
      | some m => q_kp f row n (i + 1) (seen ++ [q_nw r]) ((r.drop ((q_nw r).length + 1)).drop m)
    else false
theorem q_kpc (f : Bool → List UInt8 → Bool) (row : Bool) (n i : Nat) (seen : List (List UInt8)) (k : UInt8) (r : List UInt8) : q_kp f row (n + 1) i seen (k :: r) =
    if (q_nw r).length = r.length then false
    else if (if row = true then q_nw r = q_dg i else q_ut (q_nw r) = true ∧ q_nw r ∉ seen) then
      match q_kv f k (r.drop ((q_nw r).length + 1)) with
      | none => false
      | some m => q_kp f row n (i + 1) (seen ++ [q_nw r]) ((r.drop ((q_nw r).length + 1)).drop m)
    else false := rfl
def q_kb : Nat → Bool → List UInt8 → Bool
  | 0, _, _ => false
  | d + 1, row, w => decide (5 ≤ w.length ∧ q_nv (w.take 4) = w.length) && (decide (w.getD (w.length - 1) 1 = 0) && q_kp (q_kb d) row w.length 0 [] (q_tt w))
theorem q_nwl (r : List UInt8) : (q_nw r).length ≤ r.length := by
  unfold q_nw
  induction r with
  | nil => exact Nat.le_refl _
  | cons y r ih =>
    rw [List.takeWhile_cons]
    split
    · rw [List.length_cons, List.length_cons]
      omega
    · exact Nat.zero_le _
theorem q_nw0 (r : List UInt8) : (0 : UInt8) ∉ q_nw r := by
  unfold q_nw
  induction r with
  | nil => simp
  | cons y r ih =>
    rw [List.takeWhile_cons]
    split
    · next e =>
      intro q
      rcases List.mem_cons.1 q with q | q
      · rw [← q] at e
        simp at e
      · exact ih q
    · simp
theorem q_nwd {r : List UInt8} (h : (q_nw r).length ≠ r.length) : r = q_nw r ++ 0 :: r.drop ((q_nw r).length + 1) := by
  induction r with
  | nil => exact absurd rfl h
  | cons y r ih =>
    unfold q_nw at *
    rw [List.takeWhile_cons] at *
    by_cases e : y = 0
    · subst e
      simp
    · have : (y != 0) = true := by simp [e]
      simp only [this, if_true, List.length_cons] at *
      rw [List.cons_append, List.drop_succ_cons, ← ih (by omega)]
theorem q_u8e' {y : UInt8} {n : Nat} (h : n % 256 = y.toNat) : y = UInt8.ofNat n := by
  apply UInt8.toNat_inj.1
  rw [UInt8.toNat_ofNat', h]
theorem q_l4n {v : List UInt8} (h : v.length = 4) : q_l4 (q_nv v) = v := by
  obtain ⟨a, c, d, e, rfl⟩ := q_l4e h
  have h0 := q_u8 a
  have h1 := q_u8 c
  have h2 := q_u8 d
  have h3 := q_u8 e
  rw [q_nv4]
  unfold q_l4 q_g4
  rw [← q_u8e' (y := a) (by omega), ← q_u8e' (y := c) (by omega), ← q_u8e' (y := d) (by omega), ← q_u8e' (y := e) (by omega)]
theorem q_gdl {w : List UInt8} (hw : w ≠ []) (h : w.getD (w.length - 1) 1 = 0) : w = w.dropLast ++ [0] := by
  have e := (List.dropLast_concat_getLast hw).symm
  have : w.getLast hw = 0 := by
    rw [List.getLast_eq_getElem, ← h, List.getD_eq_getElem?_getD, List.getElem?_eq_getElem]
    rfl
  rw [this] at e
  exact e
theorem q_ktok {l : List UInt8} {m : Nat} (h : q_kt l = some m) : m ≤ l.length ∧ q_lf 2 (l.take m) := by
  unfold q_kt at h
  split at h
  · next c =>
    obtain ⟨c1, c2, c3, c4, c5⟩ := c
    injection h with h
    subst h
    refine ⟨by omega, ?_⟩
    refine Or.inr (Or.inr (Or.inr (Or.inr ⟨rfl, (l.drop 4).take (q_nv (l.take 4) - 1), ?_⟩)))
    unfold q_tx
    have l4 : (l.take 4).length = 4 := by
      rw [List.length_take]
      omega
    rw [List.length_take, List.length_drop, show min (q_nv (l.take 4) - 1) (l.length - 4) + 1 = q_nv (l.take 4) by omega, q_l4n l4]
    rw [← List.take_append_drop 4 (l.take (4 + q_nv (l.take 4)))]
    rw [List.take_take, show min 4 (4 + q_nv (l.take 4)) = 4 by omega, List.drop_take, show 4 + q_nv (l.take 4) - 4 = q_nv (l.take 4) by omega]
    have g := q_gdl (w := (l.drop 4).take (q_nv (l.take 4))) (by
      intro e
      have := congrArg List.length e
      rw [List.length_take, List.length_drop] at this
      simp at this
      omega) (by
      rw [List.length_take, List.length_drop, show min (q_nv (l.take 4)) (l.length - 4) = q_nv (l.take 4) by omega, List.getD_eq_getElem?_getD, List.getElem?_take_of_lt (by omega), List.getElem?_drop, ← c4, List.getD_eq_getElem?_getD, show 4 + (q_nv (l.take 4) - 1) = q_nv (l.take 4) + 3 by omega])
    rw [g, List.dropLast_eq_take, List.length_take, List.length_drop, List.take_take]
    rw [show min (min (q_nv (l.take 4)) (l.length - 4) - 1) (q_nv (l.take 4)) = q_nv (l.take 4) - 1 by omega]
  · cases h
theorem q_kvok {f : Bool → List UInt8 → Bool} {d : Nat} (hf : ∀ row w, f row w = true → q_ok d (if row = true then 4 else 3) w) {k : UInt8} {l : List UInt8} {m : Nat} (h : q_kv f k l = some m) : m ≤ l.length ∧ q_ok d k (l.take m) := by
  have lf : ∀ {k v}, q_lf k v → q_ok d k v := fun h => q_okm (d := 0) h (Nat.zero_le _)
  have kn : ∀ {row : Bool} {m : Nat}, q_kn f row l = some m → m ≤ l.length ∧ q_ok d (if row = true then 4 else 3) (l.take m) := by
    intro row m h
    unfold q_kn at h
    split at h
    · next c =>
      injection h with h
      subst h
      exact ⟨c.2.2.1, hf _ _ c.2.2.2⟩
    · cases h
  unfold q_kv at h
  split at h
  · next e =>
    subst e
    have := q_ktok h
    exact ⟨this.1, lf this.2⟩
  · split at h
    · next e =>
      subst e
      exact kn (row := false) h
    · split at h
      · next e =>
        subst e
        exact kn (row := true) h
      · split at h
        · next e =>
          subst e
          split at h
          · next c =>
            injection h with h
            subst h
            refine ⟨c.1, lf (Or.inr (Or.inr (Or.inl ⟨rfl, ?_⟩)))⟩
            obtain ⟨y, r, rfl⟩ := List.exists_cons_of_ne_nil (show l ≠ [] by intro e; rw [e] at c; exact absurd c.1 (by decide))
            have hy := c.2
            rw [List.headD_cons] at hy
            show [y] = [0] ∨ [y] = [1]
            rcases Nat.le_one_iff_eq_zero_or_eq_one.1 hy with q | q
            · left
              rw [q_u8e q]
              rfl
            · right
              rw [q_u8e q]
              rfl
          · cases h
        · split at h
          · next e =>
            subst e
            injection h with h
            subst h
            exact ⟨Nat.zero_le _, lf (Or.inr (Or.inr (Or.inr (Or.inl ⟨rfl, List.take_zero⟩))))⟩
          · split at h
            · next e =>
              subst e
              split at h
              · next c =>
                injection h with h
                subst h
                exact ⟨c, lf (Or.inl ⟨rfl, by rw [List.length_take]; omega⟩)⟩
              · cases h
            · split at h
              · next e =>
                subst e
                split at h
                · next c =>
                  injection h with h
                  subst h
                  exact ⟨c, lf (Or.inr (Or.inl ⟨rfl, by rw [List.length_take]; omega⟩))⟩
                · cases h
              · cases h
theorem q_kpok {f : Bool → List UInt8 → Bool} {d : Nat} (hf : ∀ row w, f row w = true → q_ok d (if row = true then 4 else 3) w) {row : Bool} : ∀ (n i : Nat) (seen : List (List UInt8)) (l : List UInt8), q_kp f row n i seen l = true →
    ∃ ps, l = q_en ps ∧ q_op d ps ∧ (row = true → q_nr i ps) ∧ (row = false → (ps.map (fun x => x.2.1)).Nodup ∧ ∀ x ∈ ps, x.2.1 ∉ seen) := by
  intro n
  induction n with
  | zero =>
    intro i seen l h
    cases l with
    | nil => exact ⟨[], rfl, (fun x hx => by cases hx), fun _ => trivial, fun _ => ⟨List.nodup_nil, (fun x hx => by cases hx)⟩⟩
    | cons k r => cases h
  | succ n ih =>
    intro i seen l h
    cases l with
    | nil => exact ⟨[], rfl, (fun x hx => by cases hx), fun _ => trivial, fun _ => ⟨List.nodup_nil, (fun x hx => by cases hx)⟩⟩
    | cons k r =>
      rw [q_kpc] at h
      by_cases c1 : (q_nw r).length = r.length
      · rw [if_pos c1] at h
        cases h
      · rw [if_neg c1] at h
        by_cases c2 : (if row = true then q_nw r = q_dg i else q_ut (q_nw r) = true ∧ q_nw r ∉ seen)
        · rw [if_pos c2] at h
          cases hm : q_kv f k (r.drop ((q_nw r).length + 1)) with
          | none =>
            rw [hm] at h
            cases h
          | some m =>
            rw [hm] at h
            replace h : q_kp f row n (i + 1) (seen ++ [q_nw r]) ((r.drop ((q_nw r).length + 1)).drop m) = true := h
            obtain ⟨m1, m2⟩ := q_kvok hf hm
            obtain ⟨ps, e1, e2, e3, e4⟩ := ih _ _ _ h
            have er := q_nwd c1
            refine ⟨(k, q_nw r, (r.drop ((q_nw r).length + 1)).take m) :: ps, ?_, ?_, ?_, ?_⟩
            · rw [q_enc, ← e1]
              unfold q_e1
              show k :: r = k :: (q_nw r ++ 0 :: (r.drop ((q_nw r).length + 1)).take m) ++ (r.drop ((q_nw r).length + 1)).drop m
              rw [List.cons_append, List.append_assoc, List.cons_append, List.take_append_drop, ← er]
            · intro x hx
              rcases List.mem_cons.1 hx with rfl | hx
              · exact ⟨q_nw0 r, m2⟩
              · exact e2 x hx
            · intro hr
              rw [if_pos hr] at c2
              exact ⟨c2, e3 hr⟩
            · intro hr
              rw [if_neg (by rw [hr]; decide)] at c2
              obtain ⟨e5, e6⟩ := e4 hr
              refine ⟨?_, ?_⟩
              · rw [List.map_cons, List.nodup_cons]
                refine ⟨?_, e5⟩
                intro q
                obtain ⟨x, hx, q⟩ := List.mem_map.1 q
                exact e6 x hx (by rw [q]; exact List.mem_append_right _ List.mem_cons_self)
              · intro x hx
                rcases List.mem_cons.1 hx with rfl | hx
                · exact c2.2
                · exact fun q => e6 x hx (List.mem_append_left _ q)
        · rw [if_neg c2] at h
          cases h
theorem q_kbok : ∀ (d : Nat) (row : Bool) (w : List UInt8), q_kb d row w = true → q_ok d (if row = true then 4 else 3) w := by
  intro d
  induction d with
  | zero =>
    intro row w h
    cases h
  | succ d ih =>
    intro row w h
    unfold q_kb at h
    rw [Bool.and_eq_true, Bool.and_eq_true, decide_eq_true_eq, decide_eq_true_eq] at h
    obtain ⟨⟨h1, h2⟩, h3, h4⟩ := h
    obtain ⟨ps, e1, e2, e3, e4⟩ := q_kpok ih w.length 0 [] (q_tt w) h4
    have ew : w = q_bx ps := by
      unfold q_bx
      have tl : (q_tt w).length = w.length - 5 := by
        unfold q_tt
        rw [List.length_dropLast, List.length_drop]
        omega
      rw [← e1, tl, show w.length - 5 + 5 = w.length by omega, ← h2, q_l4n (by rw [List.length_take]; omega)]
      have ne : w.drop 4 ≠ [] := by
        intro e
        have := congrArg List.length e
        rw [List.length_drop] at this
        simp at this
        omega
      have := q_gdl ne (by
        rw [List.length_drop, List.getD_eq_getElem?_getD, List.getElem?_drop, ← h3, List.getD_eq_getElem?_getD, show 4 + (w.length - 4 - 1) = w.length - 1 by omega])
      unfold q_tt
      rw [← this, List.take_append_drop]
    rw [ew]
    refine q_okb ?_ e2 ?_
    · cases row
      · exact Or.inl rfl
      · exact Or.inr rfl
    · cases row
      · exact ⟨fun _ => (e4 rfl).1, fun q => absurd q (by decide)⟩
      · exact ⟨fun q => absurd q (by decide), fun _ => e3 rfl⟩
