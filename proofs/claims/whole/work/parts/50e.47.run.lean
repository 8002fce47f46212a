/-! the pure part: the reference's $unwind -/
abbrev q_O10 : Type := Option (Int32 × Int32 × Int32 × Int32 × Int32 × Bool × Bool × (Nat → Int32) × (Nat → Int32) × (Nat → Int32))
theorem r_w25 {fu : Nat} {dcs frm siz : Nat → Int32} {K : Int32 → Int32 → Int32 → Int32 → Int32 → Int32 → Int32 → Int32 → Bool → Bool → (Nat → Int32) → (Nat → Int32) → (Nat → Int32) → q_O10} {p0 x2 frs frt top bgn mst : Int32} {ovr tgr : Bool} {st ffr fsz : Nat → Int32} (hf : 2500 ≤ fu) :
    ∀ (xs : List (List UInt8)) (n s a d : Nat) (k : UInt8) (v : List UInt8), (∀ x ∈ xs, q_gs x) → q_ok d k v → sm st a v → a + v.length ≤ 80000 → v.length ≤ 2000 → q_sq st s xs → xs.length < n →
    ∃ X4 X5, tw_MO_unwind_h25 fu dcs frm siz K p0 x2 n (iN k.toNat) (iN a) (iN (q_st s xs)) frs frt top bgn mst ovr tgr st ffr fsz = K (match q_th xs (k, v) with | none => 0 | some w => iN w.1.toNat) X4 X5 frs frt top bgn mst ovr tgr st ffr fsz ∧ (∀ w, q_th xs (k, v) = some w → ∃ A, X4 = iN A ∧ sm st A w.2 ∧ A + w.2.length ≤ a + v.length ∧ a ≤ A ∧ q_ok d w.1 w.2) := by
  have gone : ∀ (n : Nat) (x5 : Int32), tw_MO_unwind_h25 fu dcs frm siz K p0 x2 (n + 1) 0 0 x5 frs frt top bgn mst ovr tgr st ffr fsz = K 0 0 x5 frs frt top bgn mst ovr tgr st ffr fsz := by
    intro n x5
    unfold tw_MO_unwind_h25
    rw [if_pos (show (0 : Int32) = 0 from rfl), ite_self]
  intro xs
  induction xs with
  | nil =>
    intro n s a d k v _ ho h hp hl _ hn
    obtain ⟨n, rfl⟩ : ∃ m, n = m + 1 := ⟨n - 1, by omega⟩
    refine ⟨iN a, iN 0, rfl, fun w hw => ?_⟩
    cases hw
    exact ⟨a, rfl, h, Nat.le_refl _, Nat.le_refl _, ho⟩
  | cons x xs ih =>
    intro n s a d k v hgs ho h hp hl hsq hn
    rw [List.length_cons] at hn
    obtain ⟨n, rfl⟩ : ∃ m, n = m + 1 := ⟨n - 1, by omega⟩
    obtain ⟨g1, g2, g3, g4⟩ := hgs x List.mem_cons_self
    obtain ⟨c, c1, c2, c3, c4, c5, c6, c7⟩ := r_pq hsq
    have kn := q_okn ho
    have ns : tw_MO_nextStep fu st (iN s) = some (iN (q_st (s + x.length + 1) xs)) := by
      rw [r_ns c1 c2 g2 g3 (by omega) (by omega), c3]
    unfold tw_MO_unwind_h25
    rw [show q_st s (x :: xs) = s from rfl, if_neg (by simp (disch := omega) only [i_0, iN_a, iN_c, iN_le, iN_lt, iN_eq, iN_i]; omega), if_neg (by simp (disch := omega) only [i_0, iN_a, iN_c, iN_le, iN_lt, iN_eq, iN_i]; omega), q_thc]
    unfold tw_MO_unwind_r34
    obtain ⟨n, rfl⟩ : ∃ m, n = m + 1 := ⟨n - 1, by omega⟩
    by_cases k3 : k = 3
    rotate_left
    · rw [if_neg (fun z => k3 (by rw [show (3 : Int32) = iN 3 from rfl, iN_eq (by omega) (by omega), q_ko k 3 (by omega)] at z; exact z)), if_neg (show ¬ (k, v).1 = 3 from k3)]
      dsimp only
      rw [if_pos (show (0 : Int32) ≤ 0 by decide)]
      unfold tw_MO_unwind_r70
      rw [if_pos (show (0 : Int32) ≤ 0 by decide)]
      dsimp only
      rw [ns, obs1, gone]
      exact ⟨_, _, rfl, fun w hw => by cases hw⟩
    subst k3
    obtain ⟨e, ps, he, rfl, o1, o2⟩ := q_okd ho (Or.inl rfl)
    have bl := q_bxl ps
    rw [if_pos (show iN (3 : UInt8).toNat = 3 from rfl), r_me hf c1 c2 g2 g3 (by omega) h o1 (by omega) (by omega), obs1, if_pos (show ((3 : UInt8), q_bx ps).1 = 3 from rfl), q_psb o1 (show (q_bx ps).length < 4294967296 by omega)]
    cases hq : q_fn x ps with
    | none =>
      dsimp only
      rw [if_pos (show iN 0 ≤ 0 by decide)]
      unfold tw_MO_unwind_r70
      rw [if_pos (show iN 0 ≤ 0 by decide)]
      dsimp only
      rw [ns, obs1, gone]
      exact ⟨_, _, rfl, fun w hw => by cases hw⟩
    | some y =>
      obtain ⟨f1, f2, a2, cc2, f3, f4⟩ := q_fnm (o := y.1) (y := y.2) hq
      have il := q_inl (a := a2) (c := cc2) (x := y.2)
      rw [← f3, ← f4] at il
      have hin : sm st (a + 4 + y.1) (q_e1 y.2) := by
        have h'' := h
        rw [f3] at h''
        have := sm_in h''
        rwa [← f4] at this
      have s1 := sm_e1 hin
      obtain ⟨o3, o4⟩ := o1 y.2 f1
      dsimp only
      rw [if_neg (by simp (disch := omega) only [i_0, iN_a, iN_c, iN_le, iN_lt, iN_eq, iN_i]; omega), if_pos (by simp (disch := omega) only [i_0, i_136400, iN_a, iN_c, iN_le, iN_lt, iN_eq, iN_i]; omega)]
      unfold tw_MO_unwind_r70
      rw [if_neg (by simp (disch := omega) only [i_0, iN_a, iN_c, iN_le, iN_lt, iN_eq, iN_i]; omega), r_vo hin o3 (by omega) (by omega), obs1]
      dsimp only
      rw [ns, obs1, iN_c (by omega), s1.1]
      obtain ⟨X4, X5, t1, t2⟩ := ih (n + 1) (s + x.length + 1) (a + 4 + y.1 + y.2.2.1.length + 2) e y.2.1 y.2.2.2 (fun u hu => hgs u (List.mem_cons_of_mem _ hu)) o4 s1.2.2.2 (by omega) (by omega) c4 (by omega)
      refine ⟨X4, X5, t1, fun w hw => ?_⟩
      obtain ⟨A, A1, A2, A3, A0, A4⟩ := t2 w hw
      exact ⟨A, A1, A2, by omega, by omega, q_okm A4 (by omega)⟩
theorem r_u111 {fu k s P d : Nat} {dcs frm siz : Nat → Int32} {K : Int32 → Int32 → Int32 → Int32 → Int32 → Int32 → Bool → Bool → (Nat → Int32) → (Nat → Int32) → (Nat → Int32) → q_O10} {x : List UInt8} {ys : List (List UInt8)} {ps : List q_P} {w : q_V} (hf : 2500 ≤ fu) (hk : k < 200) (hfr : frm k = iN P) (hgs : ∀ u ∈ x :: ys, q_gs u) (hlen : (x :: ys).length ≤ 8) (hs : 128100 ≤ s)
    (hok : q_ok 16 3 (q_bx ps)) (ho : q_op 15 ps) (hP : P + (q_bx ps).length ≤ 80000) (hl : (q_bx ps).length ≤ 2000) (hth : q_th (x :: ys) (3, q_bx ps) = some w) :
    ∀ (qs : List q_P) (e n : Nat) (frs frt top bgn mst : Int32) (ovr tgr : Bool) (st ffr fsz : Nat → Int32) (N : Option (List (List UInt8))), (∀ y ∈ qs, ∀ d', q_ok d' w.1 w.2 → q_ok d' y.1 y.2.2) → sm st e (q_en qs ++ [0]) → q_op d qs → 0 < e → e + (q_en qs).length < 80000 → (q_en qs).length ≤ 2000 → qs.length < n → sm st P (q_bx ps) → q_sq st s (x :: ys) → q_fr st frs frt top tgr ffr fsz N →
    ∃ fs ft tp bg ms ov tg st' ff fz, tw_MO_unwind_h111 fu dcs frm siz K (iN s) (iN k) n (iN (q_pt e qs)) frs frt top bgn mst ovr tgr st ffr fsz = K (iN 0) fs ft tp bg ms ov tg st' ff fz ∧ q_fr st' fs ft tp tg ff fz (q_run N (qs.map (fun y => q_rpl (y.1, y.2.2) (x :: ys) (q_bx ps)))) ∧ (∀ j, j < 80000 ∨ 122001 ≤ j → st' j = st j) := by
  intro qs
  induction qs with
  | nil =>
    intro e n frs frt top bgn mst ovr tgr st ffr fsz N _ _ _ _ _ _ hn _ _ h
    obtain ⟨n, rfl⟩ : ∃ m, n = m + 1 := ⟨n - 1, by omega⟩
    exact ⟨frs, frt, top, bgn, mst, ovr, tgr, st, ffr, fsz, rfl, h, fun _ _ => rfl⟩
  | cons y qs ih =>
    intro e n frs frt top bgn mst ovr tgr st ffr fsz N hyz hq hoq he hp hl2 hn hD hsq h
    rw [List.length_cons] at hn
    obtain ⟨n, rfl⟩ : ∃ m, n = m + 1 := ⟨n - 1, by omega⟩
    obtain ⟨hm, hb⟩ := hoq y List.mem_cons_self
    have e1 := q_e1l y
    have e2 := q_enl y qs
    obtain ⟨l1, l2⟩ := q_tpl h
    obtain ⟨r, r1, r2⟩ := r_bd (fu := fu) (bgn := bgn) (mst := mst) (ovr := ovr) (by omega) h
    have fr : ∀ j, j < q_tp N ∨ q_tp N + 2001 ≤ j → r.2.2 j = st j := r2.1
    have hq1 : sm r.2.2 e (q_en (y :: qs) ++ [0]) := sm_fr hq (fun j u v => by
      rw [List.length_append] at v
      simp only [List.length_cons, List.length_nil] at v
      exact fr j (by omega))
    have h1 := (sm_en hq1).1
    have s1 := sm_e1 h1
    have h10 := (sm_en hq).1
    have s10 := sm_e1 h10
    have tc := q_thn (x :: ys) 16 ps w hok (q_opm ho (by omega)) hl hth
    obtain ⟨t, t1, t2⟩ := r_thr (fu := fu) (g := q_tp N) (m := 2001) (Z := e + y.2.1.length + 2) (z := (y.1, y.2.2)) (st0 := st) hf (by omega) hb s10.2.2.2 (by show _ + y.2.2.length ≤ _; omega) (by show y.2.2.length ≤ 2000; omega) (x :: ys) hgs x ys rfl 20 s P 15 r.1 r.2.1 r.2.2 ps (by omega) hD ho (by omega) hl hsq (by omega) tc r2.2.1 r2.2.2.1 fr
    have W := q_Wa r2 t2
    have rp : q_rpl (y.1, y.2.2) (x :: ys) (q_bx ps) = q_bx (ps.map (q_r1 x (y.1, y.2.2) (if ys.isEmpty = true then none else some (q_rpl (y.1, y.2.2) ys)))) := by
      rw [q_rpc, q_psb ho (by omega)]
    have ok := q_rpo (z := (y.1, y.2.2)) (x :: ys) 16 (q_bx ps) w (by simp) hok hl hth (hyz y List.mem_cons_self)
    rw [rp] at ok
    obtain ⟨fs, ft, tp, ov, tg, st', ff, fz, k1, k2, k3⟩ := r_ed (fu := fu) hf h W ok (by omega)
    have fr2 : ∀ j, j < 80000 ∨ 122001 ≤ j → st' j = st j := fun j hj => k3 j (by omega)
    have hq2 : sm st' e (q_en (y :: qs) ++ [0]) := sm_fr hq (fun j u v => by
      rw [List.length_append] at v
      simp only [List.length_cons, List.length_nil] at v
      exact fr2 j (by omega))
    rw [List.map_cons, q_runc, rp]
    obtain ⟨fs2, ft2, tp2, bg2, ms2, ov2, tg2, st2, ff2, fz2, i1, i2, i3⟩ := ih (e + (q_e1 y).length) n fs ft tp (iN (q_tp N)) (iN 2001) ov tg st' ff fz (q_more N (q_bx (ps.map (q_r1 x (y.1, y.2.2) (if ys.isEmpty = true then none else some (q_rpl (y.1, y.2.2) ys)))))) (fun u hu => hyz u (List.mem_cons_of_mem _ hu)) (sm_en hq2).2 (fun u hu => hoq u (List.mem_cons_of_mem _ hu)) (by omega) (by omega) (by omega) (by omega) (sm_fr hD (fun j u v => fr2 j (by omega))) (q_sqf hsq (fun _ => hs) (fun j hj => fr2 j (by omega))) k2
    refine ⟨fs2, ft2, tp2, bg2, ms2, ov2, tg2, st2, ff2, fz2, ?_, i2, fun j hj => (i3 j hj).trans (fr2 j hj)⟩
    unfold tw_MO_unwind_h111
    rw [q_ptc, if_neg (by simp (disch := omega) only [i_0, iN_a, iN_c, iN_le, iN_lt, iN_eq, iN_i]; omega), r1, obs6, if_pos (by simp (disch := omega) only [i_0, i_400, iN_a, iN_c, iN_le, iN_lt, iN_eq, iN_i]; omega), if_pos (by simp (disch := omega) only [i_0, i_136400, iN_a, iN_c, iN_le, iN_lt, iN_eq, iN_i]; omega), r_vo h1 hm (by omega) (by omega), obs1, iN_c (by omega), hfr, iN_c (by omega), s1.1]
    unfold tw_MO_thr0
    rw [t1, q_o3e, k1, obs8, r_no hq2 hoq (by omega) (by omega), obs1]
    exact i1
