/-! the pure part: the lengths on the way set anew -/
theorem q_in4 {b : Nat → UInt8} {p n : Nat} (h : sb b p (q_l4 n)) (hn : n < 4294967296) (hp : p + 4 ≤ 202000) : tw_ST_int32 b (iN p) = iN n := by
  rw [q_int hp, sb_l4 h hn]
theorem q_rsl {z w : q_V} {A : Nat} : ∀ (xs : List (List UInt8)) (x : List UInt8) (P d : Nat) (v : List UInt8) (ts : List Nat), q_ok d 3 v → v.length ≤ 2000 → q_dn (x :: xs) P (3, v) = some (ts, A, w) → (q_rpl z (x :: xs) v).length = (q_spl z (x :: xs) v).length := by
  intro xs
  induction xs with
  | nil =>
    intro x P d v ts hok hl h
    obtain ⟨e, ps, rfl, rfl, o1, o2⟩ := q_okd hok (Or.inl rfl)
    rw [q_rpc, q_splc, q_psb o1 (by omega), q_bx4, q_bxl]
    simp only [List.length_append, List.length_cons, List.length_nil]
    show _ = 4 + (_ + 1)
    simp only [List.isEmpty_nil, if_true]
    omega
  | cons x2 xs ih =>
    intro x P d v ts hok hl h
    obtain ⟨e, ps, rfl, rfl, o1, o2⟩ := q_okd hok (Or.inl rfl)
    rw [q_dnc, if_pos rfl, q_psb o1 (by omega)] at h
    cases hq : q_fn x ps with
    | none =>
      rw [hq] at h
      cases h
    | some y =>
      rw [hq] at h
      obtain ⟨f1, f2, a2, c2, f3, f4⟩ := q_fnm (o := y.1) (y := y.2) hq
      have ml := q_enm f1
      have bl := q_bxl ps
      replace h : (q_dn (x2 :: xs) (P + 4 + y.1 + y.2.2.1.length + 2) (y.2.1, y.2.2.2)).map (fun r => (P :: r.1, r.2)) = some (ts, A, w) := h
      cases hd : q_dn (x2 :: xs) (P + 4 + y.1 + y.2.2.1.length + 2) (y.2.1, y.2.2.2) with
      | none =>
        rw [hd] at h
        cases h
      | some r2 =>
        obtain ⟨t2, A2, w2⟩ := r2
        rw [hd] at h
        cases h
        have y3 : y.2.1 = 3 := by
          rw [q_dnc] at hd
          by_cases q : y.2.1 = 3
          · exact q
          · rw [if_neg q] at hd
            cases hd
        have hb := (o1 y.2 f1).2
        rw [y3] at hb hd
        have L := ih x2 (P + 4 + y.1 + y.2.2.1.length + 2) e y.2.2.2 t2 hb (by omega) hd
        rw [q_rpc, q_splc, q_psb o1 (by omega), q_bx4, q_bxl, q_mr1 (o2.1 rfl) f3 f2, q_mr1 (o2.1 rfl) f3 f2, q_ena, q_ena, q_enc, q_enc]
        unfold q_r1
        rw [if_pos f2, if_pos f2, show (if (x2 :: xs).isEmpty = true then none else some (q_spl z (x2 :: xs))) = some (q_spl z (x2 :: xs)) from rfl, show (if (x2 :: xs).isEmpty = true then none else some (q_rpl z (x2 :: xs))) = some (q_rpl z (x2 :: xs)) from rfl]
        dsimp only
        simp only [List.length_append, q_e1l, List.length_cons, List.length_nil]
        show _ = 4 + (_ + 1)
        omega
theorem c_rz {fbase nbase fcnt ncnt : Int32} {fsts nsts pst pen pho : Nat → Int32} {z w : q_V} {A P0 T t L m dl : Nat} (hL : L ≤ 122000) (htL : t ≤ L) (hm : m ≤ 8) (hw : w.2.length = z.2.length + dl) (hz : z.2.length ≤ 2000) (hw2 : w.2.length ≤ 2000) :
    ∀ (xs : List (List UInt8)) (x : List UInt8) (j n P d T' : Nat) (v : List UInt8) (ts : List Nat) (b : Nat → UInt8), q_ok d 3 v → v.length ≤ 2000 → q_dn (x :: xs) P (3, v) = some (ts, A, w) → (∀ i q, ts[i]? = some q → pho (j + i) = iN q) → j + xs.length + 1 = m → m - j < n → sb b P v → P + v.length ≤ 122000 → T' + P0 = T + P → P0 ≤ P → sb b T' (q_spl z (x :: xs) v) → T' + (q_spl z (x :: xs) v).length ≤ L → (P + v.length ≤ T' ∨ L ≤ P) →
    ∃ b', tw_SH_writeUnwound_h151 fbase nbase fcnt fsts ncnt nsts (iN m) pst pen pho (iN P0) (iN T) (iN dl) n (iN j) (iN t) (iN L) false b = (iN t, iN L, false, b') ∧ sb b' T' (q_rpl z (x :: xs) v) ∧ (∀ i, i < T' ∨ T' + (q_spl z (x :: xs) v).length ≤ i → b' i = b i) := by
  intro xs
  induction xs with
  | nil =>
    intro x j n P d T' v ts b hok hl h hpho hj hn hv hPv hT hP0 hs hsL hsep
    have len := q_rsl (z := z) [] x P d v ts hok hl h
    obtain ⟨pre, nm, post, g1, g2, g3, g4⟩ := q_ctx [] x P d v ts hok hl h
    have l1 : (q_spl z [x] v).length + w.2.length = v.length + z.2.length := by
      rw [g4 z]
      conv => rhs; rw [g2]
      simp only [List.length_append, List.length_cons]
      omega
    have h0 := h
    obtain ⟨e, ps, rfl, rfl, o1, o2⟩ := q_okd hok (Or.inl rfl)
    rw [q_dnc, if_pos rfl, q_psb o1 (by omega)] at h
    have bl := q_bxl ps
    have ts0 : ts = [P] := by
      cases hq : q_fn x ps with
      | none =>
        rw [hq] at h
        cases h
      | some y =>
        rw [hq] at h
        cases h
        rfl
    have ph := hpho 0 P (by rw [ts0]; rfl)
    rw [Nat.add_zero] at ph
    obtain ⟨n, rfl⟩ : ∃ i, n = i + 1 := ⟨n - 1, by omega⟩
    obtain ⟨n, rfl⟩ : ∃ i, n = i + 1 := ⟨n - 1, by omega⟩
    rw [q_rpc, q_psb o1 (by omega)] at len ⊢
    have bl2 := q_bxl (ps.map (q_r1 x z (if ([] : List (List UInt8)).isEmpty = true then none else some (q_rpl z []))))
    obtain ⟨b', r1, r2, r3⟩ := c_rs (L := L) (t := t) (a := T') (n := (q_en ps).length + 5 - dl) (b := b) (by omega) htL (by omega) (by omega)
    refine ⟨b', ?_, ?_, fun i hi => r3 i (by omega)⟩
    · unfold tw_SH_writeUnwound_h151
      rw [if_neg (by simp (disch := omega) only [iN_a, iN_c, iN_le, iN_lt, iN_eq, iN_i]; omega), if_neg (by simp (disch := omega) only [i_8, iN_a, iN_c, iN_le, iN_lt, iN_eq, iN_i]; omega), iN_c (by omega), ph, q_in4 (sb_bx hv).1 (by omega) (by omega), iN_a, iN_s (by omega), iN_s (by omega), show T + P - P0 = T' by omega, r1, show iN j + 1 = iN (j + 1) from iN_a j 1]
      show tw_SH_writeUnwound_h151 fbase nbase fcnt fsts ncnt nsts (iN m) pst pen pho (iN P0) (iN T) (iN dl) (n + 1) (iN (j + 1)) (iN t) (iN L) false b' = _
      unfold tw_SH_writeUnwound_h151
      rw [if_pos (by simp only [List.length_nil] at hj; simp (disch := omega) only [iN_a, iN_c, iN_le, iN_lt, iN_eq, iN_i]; omega)]
    · rw [q_splc, q_psb o1 (by omega), q_bx4] at hs
      unfold q_bx
      refine sb_ap.2 ⟨?_, ?_⟩
      · rw [show (q_en (ps.map (q_r1 x z (if ([] : List (List UInt8)).isEmpty = true then none else some (q_rpl z []))))).length + 5 = (q_en ps).length + 5 - dl by omega]
        exact r2
      · have hs2 := (sb_ap.1 hs).2
        exact sb_fr hs2 (fun i u v => r3 i (by right; exact u))
  | cons x2 xs ih =>
    intro x j n P d T' v ts b hok hl h hpho hj hn hv hPv hT hP0 hs hsL hsep
    have len := q_rsl (z := z) (x2 :: xs) x P d v ts hok hl h
    obtain ⟨pre, nm, post, g1, g2, g3, g4⟩ := q_ctx (x2 :: xs) x P d v ts hok hl h
    have l1 : (q_spl z (x :: x2 :: xs) v).length + w.2.length = v.length + z.2.length := by
      rw [g4 z]
      conv => rhs; rw [g2]
      simp only [List.length_append, List.length_cons]
      omega
    obtain ⟨e, ps, rfl, rfl, o1, o2⟩ := q_okd hok (Or.inl rfl)
    rw [q_dnc, if_pos rfl, q_psb o1 (by omega)] at h
    have bl := q_bxl ps
    rw [List.length_cons] at hj
    cases hq : q_fn x ps with
    | none =>
      rw [hq] at h
      cases h
    | some y =>
      rw [hq] at h
      obtain ⟨f1, f2, a2, c2, f3, f4⟩ := q_fnm (o := y.1) (y := y.2) hq
      have ml := q_enm f1
      have il := q_inl (a := a2) (c := c2) (x := y.2)
      rw [← f3, ← f4] at il
      replace h : (q_dn (x2 :: xs) (P + 4 + y.1 + y.2.2.1.length + 2) (y.2.1, y.2.2.2)).map (fun r => (P :: r.1, r.2)) = some (ts, A, w) := h
      cases hd : q_dn (x2 :: xs) (P + 4 + y.1 + y.2.2.1.length + 2) (y.2.1, y.2.2.2) with
      | none =>
        rw [hd] at h
        cases h
      | some r2 =>
        obtain ⟨t2, A2, w2⟩ := r2
        rw [hd] at h
        cases h
        have y3 : y.2.1 = 3 := by
          rw [q_dnc] at hd
          by_cases q : y.2.1 = 3
          · exact q
          · rw [if_neg q] at hd
            cases hd
        have hb := (o1 y.2 f1).2
        rw [y3] at hb hd
        have ph := hpho 0 P rfl
        rw [Nat.add_zero] at ph
        obtain ⟨n, rfl⟩ : ∃ i, n = i + 1 := ⟨n - 1, by omega⟩
        have E1 : (if (x2 :: xs).isEmpty = true then none else some (q_spl z (x2 :: xs))) = some (q_spl z (x2 :: xs)) := rfl
        have E2 : (if (x2 :: xs).isEmpty = true then none else some (q_rpl z (x2 :: xs))) = some (q_rpl z (x2 :: xs)) := rfl
        have sp : q_spl z (x :: x2 :: xs) (q_bx ps) = q_l4 ((q_en ps).length + 5) ++ ((q_en a2 ++ (3 :: (x ++ [0]))) ++ (q_spl z (x2 :: xs) y.2.2.2 ++ (q_en c2 ++ [0]))) := by
          rw [q_splc, q_psb o1 (by omega), q_bx4, E1, q_mr1 (o2.1 rfl) f3 f2, q_ena, q_enc]
          unfold q_r1
          rw [if_pos f2]
          simp [q_e1, f2, List.append_assoc]
        have en : q_en (ps.map (q_r1 x z (some (q_rpl z (x2 :: xs))))) = (q_en a2 ++ (3 :: (x ++ [0]))) ++ (q_rpl z (x2 :: xs) y.2.2.2 ++ q_en c2) := by
          rw [q_mr1 (o2.1 rfl) f3 f2, q_ena, q_enc]
          unfold q_r1
          rw [if_pos f2]
          simp [q_e1, f2, List.append_assoc]
        have rp : q_rpl z (x :: x2 :: xs) (q_bx ps) = q_l4 ((q_en (ps.map (q_r1 x z (some (q_rpl z (x2 :: xs)))))).length + 5) ++ ((q_en a2 ++ (3 :: (x ++ [0]))) ++ (q_rpl z (x2 :: xs) y.2.2.2 ++ (q_en c2 ++ [0]))) := by
          rw [q_rpc, q_psb o1 (by omega), E2]
          unfold q_bx
          conv => lhs; rhs; rw [en]
          simp [List.append_assoc]
        have len2 := q_rsl (z := z) xs x2 (P + 4 + y.1 + y.2.2.1.length + 2) e y.2.2.2 t2 hb (by omega) hd
        have bl2 := q_bxl (ps.map (q_r1 x z (some (q_rpl z (x2 :: xs)))))
        have rl : (q_rpl z (x :: x2 :: xs) (q_bx ps)).length = (q_en (ps.map (q_r1 x z (some (q_rpl z (x2 :: xs)))))).length + 5 := by
          rw [q_rpc, q_psb o1 (by omega), E2, bl2]
        have sl : (q_spl z (x :: x2 :: xs) (q_bx ps)).length = 4 + ((q_en a2).length + (x.length + 2)) + ((q_spl z (x2 :: xs) y.2.2.2).length + ((q_en c2).length + 1)) := by
          rw [sp]
          simp only [List.length_append, List.length_cons, List.length_nil]
          show 4 + _ = _
          omega
        obtain ⟨b1, r1, r2, r3⟩ := c_rs (L := L) (t := t) (a := T') (n := (q_en ps).length + 5 - dl) (b := b) (by omega) htL (by omega) (by omega)
        have hs' := hs
        rw [sp] at hs'
        have s2 := sb_ap.1 hs'
        have s3 := sb_ap.1 s2.2
        have s4 := sb_ap.1 s3.2
        have hl4 : (q_l4 ((q_en ps).length + 5)).length = 4 := rfl
        have hla : (q_en a2 ++ (3 :: (x ++ [0]))).length = (q_en a2).length + (x.length + 2) := by
          simp only [List.length_append, List.length_cons, List.length_nil]
        rw [hl4, hla] at s4
        rw [hl4] at s3
        have hvy : sb b (P + 4 + y.1 + y.2.2.1.length + 2) y.2.2.2 := by
          have h'' := hv
          rw [f3] at h''
          have q := sb_in h''
          rw [← f4] at q
          exact (sb_e1 q).2.2.2
        obtain ⟨b2, k1, k2, k3⟩ := ih x2 (j + 1) n (P + 4 + y.1 + y.2.2.1.length + 2) e (T' + 4 + ((q_en a2).length + (x.length + 2))) y.2.2.2 t2 b1 hb (by omega) hd (fun i q hi => by rw [show j + 1 + i = j + (i + 1) by omega]; exact hpho (i + 1) q hi) (by omega) (by omega) (sb_fr hvy (fun i u v => r3 i (by omega))) (by omega) (by rw [f4, f2]; omega) (by omega) (sb_fr s4.1 (fun i u v => r3 i (by omega))) (by omega) (by rw [f2] at ml il ⊢; omega)
        refine ⟨b2, ?_, ?_, fun i hi => (k3 i (by omega)).trans (r3 i (by omega))⟩
        · unfold tw_SH_writeUnwound_h151
          rw [if_neg (by simp (disch := omega) only [iN_a, iN_c, iN_le, iN_lt, iN_eq, iN_i]; omega), if_neg (by simp (disch := omega) only [i_8, iN_a, iN_c, iN_le, iN_lt, iN_eq, iN_i]; omega), iN_c (by omega), ph, q_in4 (sb_bx hv).1 (by omega) (by omega), iN_a, iN_s (by omega), iN_s (by omega), show T + P - P0 = T' by omega, r1, show iN j + 1 = iN (j + 1) from iN_a j 1]
          exact k1
        · rw [rp]
          have fr : ∀ i, T' ≤ i → i < T' + 4 → b2 i = b1 i := fun i u v => k3 i (by omega)
          refine sb_ap.2 ⟨?_, sb_ap.2 ⟨?_, sb_ap.2 ⟨?_, ?_⟩⟩⟩
          · rw [show (q_en (ps.map (q_r1 x z (some (q_rpl z (x2 :: xs)))))).length + 5 = (q_en ps).length + 5 - dl by omega]
            exact sb_fr r2 (fun i u v => fr i u v)
          · exact sb_fr s3.1 (fun i u v => by rw [hla] at v; change i < T' + 4 + ((q_en a2).length + (x.length + 2)) at v; rw [k3 i (Or.inl v), r3 i (by right; exact u)])
          · rw [hla]
            exact k2
          · rw [hla, len2]
            exact sb_fr s4.2 (fun i u v => by rw [k3 i (by right; exact u), r3 i (by right; change T' + 4 + _ + _ ≤ i at u; omega)])
