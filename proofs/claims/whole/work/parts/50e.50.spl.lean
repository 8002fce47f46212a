/-! the pure part: a document taken apart at a path and put together with another value, its lengths as before -/
def q_spl (z : q_V) : List (List UInt8) → List UInt8 → List UInt8
  | [], v => v
  | x :: xs, v => v.take 4 ++ (q_en ((q_ps v).map (q_r1 x z (if xs.isEmpty = true then none else some (q_spl z xs)))) ++ [0])
theorem q_splc (z : q_V) (x : List UInt8) (xs : List (List UInt8)) (v : List UInt8) : q_spl z (x :: xs) v = v.take 4 ++ (q_en ((q_ps v).map (q_r1 x z (if xs.isEmpty = true then none else some (q_spl z xs)))) ++ [0]) := rfl
theorem q_mr1 {x : List UInt8} {z : q_V} {f : Option (List UInt8 → List UInt8)} {ps a c : List q_P} {y : q_P} (hn : (ps.map (fun x => x.2.1)).Nodup) (e : ps = a ++ y :: c) (hx : y.2.1 = x) : ps.map (q_r1 x z f) = a ++ q_r1 x z f y :: c := by
  have key : ∀ l : List q_P, (∀ u ∈ l, u.2.1 ≠ x) → l.map (q_r1 x z f) = l := by
    intro l hl
    induction l with
    | nil => rfl
    | cons u l ih =>
      rw [List.map_cons, ih (fun t ht => hl t (List.mem_cons_of_mem _ ht))]
      unfold q_r1
      rw [if_neg (hl u List.mem_cons_self)]
  subst e
  rw [List.map_append, List.map_cons, List.nodup_append] at hn
  obtain ⟨h1, h2, h3⟩ := hn
  rw [List.nodup_cons] at h2
  rw [List.map_append, List.map_cons, key a, key c]
  · intro u hu q
    exact h2.1 (List.mem_map.2 ⟨u, hu, q.trans hx.symm⟩)
  · intro u hu q
    exact h3 u.2.1 (List.mem_map.2 ⟨u, hu, rfl⟩) y.2.1 List.mem_cons_self (q.trans hx.symm)
theorem q_bx4 (ps : List q_P) : (q_bx ps).take 4 = q_l4 ((q_en ps).length + 5) := by
  unfold q_bx
  exact List.take_left' rfl
/-- what lies before and behind the value -/
theorem q_ctx {w : q_V} {A : Nat} : ∀ (xs : List (List UInt8)) (x : List UInt8) (P d : Nat) (v : List UInt8) (ts : List Nat), q_ok d 3 v → v.length ≤ 2000 → q_dn (x :: xs) P (3, v) = some (ts, A, w) →
    ∃ pre nm post, (x :: xs).getLast? = some nm ∧ v = pre ++ (w.1 :: (nm ++ 0 :: w.2)) ++ post ∧ A = P + pre.length + nm.length + 2 ∧ ∀ z : q_V, q_spl z (x :: xs) v = pre ++ (z.1 :: (nm ++ 0 :: z.2)) ++ post := by
  intro xs
  induction xs with
  | nil =>
    intro x P d v ts hok hl h
    obtain ⟨e, ps, rfl, rfl, o1, o2⟩ := q_okd hok (Or.inl rfl)
    rw [q_dnc, if_pos rfl, q_psb o1 (by omega)] at h
    cases hq : q_fn x ps with
    | none =>
      rw [hq] at h
      cases h
    | some y =>
      rw [hq] at h
      obtain ⟨f1, f2, a2, c2, f3, f4⟩ := q_fnm (o := y.1) (y := y.2) hq
      cases h
      refine ⟨q_l4 ((q_en ps).length + 5) ++ q_en a2, x, q_en c2 ++ [0], rfl, ?_, ?_, fun z => ?_⟩
      · conv => lhs; unfold q_bx; rw [show q_en ps = q_en a2 ++ (q_e1 y.2 ++ q_en c2) by rw [f3, q_ena, q_enc]]
        rw [show (q_en a2 ++ (q_e1 y.2 ++ q_en c2)).length = (q_en ps).length by rw [f3, q_ena, q_enc]]
        simp [q_e1, f2, List.append_assoc]
      · rw [List.length_append, f4, f2]
        show P + 4 + (q_en a2).length + x.length + 2 = P + (4 + (q_en a2).length) + x.length + 2
        omega
      · rw [q_splc, q_psb o1 (by omega), q_mr1 (o2.1 rfl) f3 f2, q_bx4, q_ena, q_enc]
        unfold q_r1
        rw [if_pos f2]
        simp [q_e1, f2, List.append_assoc]
  | cons x2 xs ih =>
    intro x P d v ts hok hl h
    obtain ⟨e, ps, rfl, rfl, o1, o2⟩ := q_okd hok (Or.inl rfl)
    rw [q_dnc, if_pos rfl, q_psb o1 (by omega)] at h
    cases hq : q_fn x ps with
    | none =>
      rw [hq] at h
      cases h
    | some y =>
      rw [hq] at h
      obtain ⟨f1, f2, a2, c2, f3, f4⟩ := q_fnm (o := y.1) (y := y.2) hq
      have ml := q_enm f1
      have bl := q_bxl ps
      replace h : (q_dn (x2 :: xs) (P + 4 + y.1 + y.2.2.1.length + 2) (y.2.1, y.2.2.2)).map (fun r => (P :: r.1, r.2)) = some (ts, A, w) := h
      cases hd : q_dn (x2 :: xs) (P + 4 + y.1 + y.2.2.1.length + 2) (y.2.1, y.2.2.2) with
      | none =>
        rw [hd] at h
        cases h
      | some r2 =>
        obtain ⟨t2, A2, w2⟩ := r2
        rw [hd] at h
        cases h
        have y3 : y.2.1 = 3 := by
          rw [q_dnc] at hd
          by_cases q : y.2.1 = 3
          · exact q
          · rw [if_neg q] at hd
            cases hd
        have hb := (o1 y.2 f1).2
        rw [y3] at hb hd
        obtain ⟨pre, nm, post, g1, g2, g3, g4⟩ := ih x2 (P + 4 + y.1 + y.2.2.1.length + 2) e y.2.2.2 t2 hb (by omega) hd
        refine ⟨q_l4 ((q_en ps).length + 5) ++ q_en a2 ++ (3 :: (x ++ [0])) ++ pre, nm, post ++ (q_en c2 ++ [0]), ?_, ?_, ?_, fun z => ?_⟩
        · rw [List.getLast?_cons_cons]
          exact g1
        · conv => lhs; unfold q_bx; rw [show q_en ps = q_en a2 ++ (q_e1 y.2 ++ q_en c2) by rw [f3, q_ena, q_enc]]
          rw [show (q_en a2 ++ (q_e1 y.2 ++ q_en c2)).length = (q_en ps).length by rw [f3, q_ena, q_enc]]
          unfold q_e1
          rw [f2, y3, g2]
          simp [List.append_assoc]
        · rw [g3, f4, f2]
          simp only [List.length_append, List.length_cons, List.length_nil]
          show _ = P + (4 + _ + _ + _) + _ + 2
          omega
        · rw [q_splc, q_psb o1 (by omega), q_mr1 (o2.1 rfl) f3 f2, q_bx4, q_ena, q_enc]
          unfold q_r1
          rw [if_pos f2, show (if (x2 :: xs).isEmpty = true then none else some (q_spl z (x2 :: xs))) = some (q_spl z (x2 :: xs)) from rfl]
          dsimp only
          unfold q_e1
          dsimp only
          rw [g4 z, f2]
          simp [List.append_assoc]
