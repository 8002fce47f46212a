/-! the pure part: the class's VALUE of a path -/
abbrev q_U : Type := Int32 × Int32 × Int32 × Bool × (Nat → UInt8)
def q_cv (L t q m : Nat) (b : Nat → UInt8) (R : q_U) (z : Option q_V) : Prop :=
  match z with
  | none => R = (0, iN t, iN L, false, b)
  | some z => ∃ P t' b', R = (iN (32 * P + z.1.toNat), iN t', iN L, false, b') ∧ sb b' P z.2 ∧ (∀ j, j < t ∨ L ≤ j → b' j = b j) ∧ ((P = t ∧ t' = t + z.2.length ∧ z.1 = 4) ∨ (P < t ∧ P + z.2.length ≤ q ∧ q ≤ P + m ∧ t' = t ∧ b' = b)) ∧ t' ≤ t + m ∧ t' ≤ L
theorem q_tp5 {T1 T2 T3 T4 T5 Z : Type} (q : T1 × T2 × T3 × T4 × T5) (f : T1 → T2 → T3 → T4 → T5 → Z) : tp5 q f = f q.1 q.2.1 q.2.2.1 q.2.2.2.1 q.2.2.2.2 := rfl
theorem q_rff {p k : Nat} (hp : p < 67108864) (hk : k < 32) : tw_ST_ref (iN k) (iN p) = iN (32 * p + k) := q_rf hp hk
theorem c_rv_h {L T d : Nat} {p1 : Int32} {fv : Int32 → Int32 → Bool → (Nat → UInt8) → Int32 → Int32 × Int32 × Int32 × Bool × (Nat → UInt8)} {f : q_P → Option q_V} {b0 : Nat → UInt8} (hL : L ≤ 202000) :
    ∀ (ps : List q_P) (e n i u : Nat) (D : List q_V) (b : Nat → UInt8), sb b0 e (q_en ps) → q_op d ps → q_nr i ps → e + (q_en ps).length < T → (q_en ps).length ≤ 2000 → ps.length < n → D.length ≤ i → i + ps.length ≤ 1000 →
    u = T + 4 + (q_en (q_rn 0 D)).length → u + (q_en ps).length + 1 ≤ L → sb b T ([0, 0, 0, 0] ++ q_en (q_rn 0 D)) → (∀ j, j < T ∨ L ≤ j → b j = b0 j) →
    (∀ y ∈ ps, y.1 ≠ 3 → f y = none) → (∀ y ∈ ps, ∀ z, f y = some z → z.2.length ≤ y.2.2.length ∧ ∃ e, q_ok e z.1 z.2) →
    (∀ y ∈ ps, y.1 = 3 → ∀ (t p : Nat) (b : Nat → UInt8), sb b p y.2.2 → p < T → p + y.2.2.length ≤ T → T ≤ t → t + y.2.2.length ≤ L → (∀ j, j < T ∨ L ≤ j → b j = b0 j) → q_cv L t (p + y.2.2.length) y.2.2.length b (fv (iN t) (iN L) false b (iN (32 * p + 3))) (f y)) →
    ∃ b', tw_PA_rowOfValues_h34 fv p1 (iN T) (iN (e + (q_en ps).length)) n (iN e) (iN D.length) (iN i) (iN u) (iN L) false b = (iN (32 * T + 4), iN (T + (q_bx (q_rn 0 (D ++ ps.filterMap f))).length), iN L, false, b') ∧
      sb b' T (q_bx (q_rn 0 (D ++ ps.filterMap f))) ∧ (∀ j, j < T ∨ L ≤ j → b' j = b0 j) ∧ (q_en (q_rn 0 (D ++ ps.filterMap f))).length ≤ (q_en (q_rn 0 D)).length + (q_en ps).length := by
  intro ps
  induction ps with
  | nil =>
    intro e n i u D b _ _ _ he _ hn _ hi hu hroom hs hfr _ _ _
    obtain ⟨n, rfl⟩ : ∃ m, n = m + 1 := ⟨n - 1, by omega⟩
    have z : (q_en ([] : List q_P)).length = 0 := rfl
    rw [z] at hroom ⊢
    rw [List.filterMap_nil, List.append_nil]
    obtain ⟨r', t1, t2⟩ := c_cls (L := L) (t := T) (o := false) (b := b0) (w := q_en (q_rn 0 D)) (r := (u, false, b)) hL
      ⟨hfr, by show T ≤ u; omega, by show u ≤ L; omega, fun _ => ⟨by show u = _; simp; omega, rfl, hs⟩, fun q => absurd ⟨rfl, by simp; omega⟩ q⟩
    have bl := q_bxl (q_rn 0 D)
    obtain ⟨v1, v2, v3⟩ := t2.2.2.2.1 ⟨rfl, by show T + (q_bx (q_rn 0 D)).length ≤ L; omega⟩
    refine ⟨r'.2.2, ?_, v3, t2.1, by omega⟩
    unfold tw_PA_rowOfValues_h34
    replace t1 : tw_WR_close (iN u) (iN L) false b (iN T) = q_e4 L r' := t1
    rw [t1, q_t4e, Nat.add_zero, if_pos (Int32.le_refl (iN e)), v1, v2, show (4 : Int32) = iN 4 from rfl, q_rff (by omega) (by omega)]
    split <;> rfl
  | cons y r ih =>
    intro e n i u D b h ho hnr hp hl hn hD hi hu hroom hs hfr hf3 hfl hfm
    obtain ⟨n, rfl⟩ : ∃ m, n = m + 1 := ⟨n - 1, by omega⟩
    have e1 := q_e1l y
    have e2 := q_enl y r
    rw [List.length_cons] at hn hi
    have SRC : ∀ b' : Nat → UInt8, (∀ j, j < T ∨ L ≤ j → b' j = b0 j) → sb b' e (q_e1 y) := by
      intro b' hb'
      exact sb_fr (sb_en h).1 (fun j h1 h2 => hb' j (by omega))
    obtain ⟨hm, hb⟩ := ho y List.mem_cons_self
    have kx := (q_okn hb).1
    have h1 := SRC b hfr
    have s1 := sb_e1 h1
    have uy := q_u8 y.1
    have h3 : sb b0 (e + (q_e1 y).length) (q_en r) := (sb_en h).2
    have IH := fun u D b hD hu hroom hs hfr => ih (e + (q_e1 y).length) n (i + 1) u D b h3 (fun z hz => ho z (List.mem_cons_of_mem _ hz)) hnr.2 (by omega) (by omega) (by omega) hD (by omega) hu hroom hs hfr (fun z hz => hf3 z (List.mem_cons_of_mem _ hz)) (fun z hz => hfl z (List.mem_cons_of_mem _ hz)) (fun z hz => hfm z (List.mem_cons_of_mem _ hz))
    rw [show e + (q_e1 y).length + (q_en r).length = e + (q_en (y :: r)).length by omega] at IH
    have EO : ∀ b' : Nat → UInt8, (∀ j, j < T ∨ L ≤ j → b' j = b0 j) → tw_ST_endOf b' (iN (32 * (e + y.2.1.length + 2) + y.1.toNat)) = iN (e + (q_e1 y).length) := by
      intro b' hb'
      rw [q_eo hb (sb_e1 (SRC b' hb')).2.2.2 (by omega)]
      exact congrArg iN (by omega)
    have g1 : ¬ 1000 ≤ iN i := by
      simp (disch := omega) only [i_1000, iN_a, iN_c, iN_le, iN_lt, iN_eq, iN_i]
      omega
    have g2 : ¬ iN (e + (q_en (y :: r)).length) ≤ iN e := by
      simp (disch := omega) only [iN_a, iN_c, iN_le, iN_lt, iN_eq, iN_i]
      omega
    have kd : tw_ST_kindOf (iN (32 * (e + y.2.1.length + 2) + y.1.toNat)) = iN y.1.toNat := q_k31 (by omega) kx
    unfold tw_PA_rowOfValues_h34
    rw [if_neg g1, if_neg g2, q_vo h1 kx hm (by omega), kd, i_3, qy_3, show iN i + 1 = iN (i + 1) from iN_a i 1, List.filterMap_cons]
    by_cases k3 : y.1 = 3
    · rw [if_pos k3]
      have dl := q_dgl hD
      rw [← hnr.1] at dl
      obtain ⟨r1, x1, x2⟩ := c_ix (L := L) (t := u) (v := D.length) (o := false) (b := b) (k := 4) (by omega) (by omega) hL
      have xl : ((4 : UInt8) :: (q_dg D.length ++ [0])).length = (q_dg D.length).length + 2 := by simp
      obtain ⟨xe, xf, xg⟩ := x2.2.2.2.1 ⟨rfl, by rw [xl]; omega⟩
      rw [xl] at xe
      rw [show tw_WR_index (iN u) (iN L) false b 4 (iN D.length) = q_e4 L r1 from x1, q_t4e, xf, q_tp5]
      have fr1 : ∀ j, j < T ∨ L ≤ j → r1.2.2 j = b0 j := by
        intro j hj
        rw [x2.1 j (by omega), hfr j hj]
      have er : iN (32 * (e + y.2.1.length + 2) + y.1.toNat) = iN (32 * (e + y.2.1.length + 2) + 3) := by
        rw [k3]
        rfl
      have F := hfm y List.mem_cons_self k3 r1.1 (e + y.2.1.length + 2) r1.2.2 (sb_e1 (SRC r1.2.2 fr1)).2.2.2 (by omega) (by omega) (by omega) (by omega) fr1
      rw [← er] at F
      generalize fv (iN r1.1) (iN L) false r1.2.2 (iN (32 * (e + y.2.1.length + 2) + y.1.toNat)) = R at F ⊢
      cases hfy : f y with
      | none =>
        rw [hfy] at F
        replace F : R = (0, iN r1.1, iN L, false, r1.2.2) := F
        subst F
        dsimp only
        rw [if_pos rfl, EO r1.2.2 fr1]
        obtain ⟨b', i1, i2, i3, i4⟩ := IH u D r1.2.2 (by omega) hu (by omega) (sb_fr hs (fun j h1 h2 => x2.1 j (Or.inl (by rw [List.length_append] at h2; simp only [List.length_cons, List.length_nil] at h2; omega)))) fr1
        exact ⟨b', i1, i2, i3, by omega⟩
      | some z =>
        rw [hfy] at F
        obtain ⟨P, t', b', F1, F2, F3, F4, F5, F6⟩ := F
        subst F1
        obtain ⟨zl, ze, zo⟩ := hfl y List.mem_cons_self z hfy
        have zk := q_okn zo
        have fr2 : ∀ j, j < T ∨ L ≤ j → b' j = b0 j := by
          intro j hj
          rw [F3 j (by omega), fr1 j hj]
        have PL : P < 202000 := by omega
        dsimp only
        rw [if_neg (show ¬ iN (32 * P + z.1.toNat) = 0 by simp (disch := omega) only [i_0, iN_a, iN_c, iN_le, iN_lt, iN_eq, iN_i]; omega)]
        have pl : tw_ST_placeOf (iN (32 * P + z.1.toNat)) = iN P := q_p (by omega) zk.1
        rw [pl]
        have en1 : q_en (q_rn 0 (D ++ [z])) = q_en (q_rn 0 D) ++ q_e1 (z.1, q_dg D.length, z.2) := by
          rw [q_rna, q_ena, Nat.zero_add]
          show _ ++ (q_e1 (z.1, q_dg D.length, z.2) ++ []) = _
          rw [List.append_nil]
        have el1 : (q_e1 (z.1, q_dg D.length, z.2)).length = (q_dg D.length).length + z.2.length + 2 := q_e1l _
        have enl : (q_en (q_rn 0 (D ++ [z]))).length = (q_en (q_rn 0 D)).length + ((q_dg D.length).length + z.2.length + 2) := by
          rw [en1, List.length_append, el1]
        have dn : iN D.length + 1 = iN (D ++ [z]).length := by
          rw [List.length_append]
          exact iN_a D.length 1
        -- what stands there then
        have glue : ∀ b2 : Nat → UInt8, (∀ j, j < u → b2 j = b j) → b2 u = z.1 → sb b2 (u + 1) (q_dg D.length ++ [0]) → sb b2 r1.1 z.2 → sb b2 T ([0, 0, 0, 0] ++ q_en (q_rn 0 (D ++ [z]))) := by
          intro b2 p1 p2 p3 p4
          rw [en1, ← List.append_assoc]
          refine sb_ap.2 ⟨?_, ?_⟩
          · refine sb_fr hs (fun j h1 h2 => p1 j ?_)
            rw [List.length_append] at h2
            simp only [List.length_cons, List.length_nil] at h2
            omega
          · rw [List.length_append]
            simp only [List.length_cons, List.length_nil]
            rw [show T + (0 + 1 + 1 + 1 + 1 + (q_en (q_rn 0 D)).length) = u by omega]
            unfold q_e1
            refine ⟨p2, ?_⟩
            have e9 : (q_dg D.length ++ 0 :: z.2 : List UInt8) = (q_dg D.length ++ [0]) ++ z.2 := by simp
            show sb _ (u + 1) (q_dg D.length ++ 0 :: z.2)
            rw [e9]
            refine sb_ap.2 ⟨p3, ?_⟩
            rw [List.length_append]
            simp only [List.length_cons, List.length_nil]
            rw [show u + 1 + ((q_dg D.length).length + (0 + 1)) = r1.1 by omega]
            exact p4
        rcases F4 with ⟨f1, f2, f3⟩ | ⟨f1, f2, _, f3, f4⟩
        · rw [if_pos (by rw [f1]), EO b' fr2, dn]
          obtain ⟨b3, i1, i2, i3, i4⟩ := IH t' (D ++ [z]) b' (by rw [List.length_append]; simp; omega) (by omega) (by omega) (glue b' (fun j hj => by rw [F3 j (by omega), x2.1 j (by omega)]) (by rw [F3 u (by omega), f3]; exact xg.1) (sb_fr xg.2 (fun j h1 h2 => F3 j (by rw [List.length_append] at h2; simp at h2; omega))) (f1 ▸ F2)) fr2
          rw [List.append_assoc] at i1 i2 i4
          exact ⟨b3, i1, i2, i3, by rw [enl] at i4; simp only [List.cons_append, List.nil_append] at i4 ⊢; omega⟩
        · rw [if_neg (by simp (disch := omega) only [iN_a, iN_c, iN_le, iN_lt, iN_eq, iN_i]; omega)]
          unfold tp1
          have kz : tw_ST_kindOf (iN (32 * P + z.1.toNat)) = iN z.1.toNat := q_k31 (by omega) zk.1
          have wr : tw_ST_write b' (iN u) (iN z.1.toNat) = fun j => if j = u then z.1 else b' j := by
            unfold tw_ST_write
            rw [if_neg (by simp (disch := omega) only [i_0, iN_a, iN_c, iN_le, iN_lt, iN_eq, iN_i]; omega), if_neg (by simp (disch := omega) only [i_202000, iN_a, iN_c, iN_le, iN_lt, iN_eq, iN_i]; omega), iN_c (by omega)]
            funext j
            show (if j = u then _ else b' j) = _
            rw [q_byw, q_byn]
          rw [kz, wr]
          generalize hb3 : (fun j => if j = u then z.1 else b' j) = b3
          have b3e : ∀ j, j ≠ u → b3 j = b' j := by
            intro j hj
            rw [← hb3]
            exact if_neg hj
          have b3u : b3 u = z.1 := by
            rw [← hb3]
            exact if_pos rfl
          have fr3 : ∀ j, j < T ∨ L ≤ j → b3 j = b0 j := by
            intro j hj
            rw [b3e j (by omega), fr2 j hj]
          have PT : P + z.2.length ≤ T := by omega
          have F2' : sb b3 P z.2 := sb_fr F2 (fun j h1 h2 => b3e j (by omega))
          dsimp only
          rw [q_eo zo F2' (by omega)]
          obtain ⟨r4, y1, y2⟩ := c_cp (L := L) (t := t') (o := false) (b := b3) (a := P) (l := z.2) F6 hL F2' (by omega)
          obtain ⟨ya, yb, yc⟩ := y2.2.2.2.1 ⟨rfl, by omega⟩
          rw [y1, q_t4e, yb, ya]
          have fr4 : ∀ j, j < T ∨ L ≤ j → r4.2.2 j = b0 j := by
            intro j hj
            rw [y2.1 j (by omega), fr3 j hj]
          rw [EO r4.2.2 fr4, dn]
          obtain ⟨b5, i1, i2, i3, i4⟩ := IH (t' + z.2.length) (D ++ [z]) r4.2.2 (by rw [List.length_append]; simp; omega) (by omega) (by omega) (glue r4.2.2 (fun j hj => by rw [y2.1 j (by omega), b3e j (by omega), F3 j (by omega), x2.1 j (by omega)]) (by rw [y2.1 u (by omega), b3u]) (sb_fr xg.2 (fun j h1 h2 => by rw [List.length_append] at h2; simp at h2; rw [y2.1 j (by omega), b3e j (by omega), F3 j (by omega)])) (f3 ▸ yc)) fr4
          rw [List.append_assoc] at i1 i2 i4
          exact ⟨b5, i1, i2, i3, by rw [enl] at i4; simp only [List.cons_append, List.nil_append] at i4 ⊢; omega⟩
    · rw [if_neg k3, EO b hfr, hf3 y List.mem_cons_self k3]
      dsimp only
      obtain ⟨b', i1, i2, i3, i4⟩ := IH u D b (by omega) hu (by omega) hs hfr
      exact ⟨b', i1, i2, i3, by omega⟩
