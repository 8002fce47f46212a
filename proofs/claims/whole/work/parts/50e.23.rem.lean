/-! the pure part: the reference's VALUE of a path -/
theorem q_sqf {st st' : Nat → Int32} {s c : Nat} {xs : List (List UInt8)} (h : q_sq st s xs) (hs : xs ≠ [] → c ≤ s) (hf : ∀ j, c ≤ j → st' j = st j) : q_sq st' s xs := by
  intro q
  obtain ⟨h1, h2, h3, h4⟩ := h q
  have := hs q
  exact ⟨sm_fr h1 (fun j a b => hf j (by omega)), h2, h3, h4⟩
theorem r_em {fu g m : Nat} (hfu : 2500 ≤ fu) (hg : g + m ≤ 136400) : ∀ (d n M s a t : Nat) (k : UInt8) (v : List UInt8) (xs : List (List UInt8)) (st : Nat → Int32), q_ok d k v → sm st a v → a + v.length ≤ t → g ≤ t → t + v.length ≤ g + m → v.length ≤ 2005 → (∀ x ∈ xs, q_gs x) →
    q_sq st s xs → (xs ≠ [] → g + m ≤ s) → d < n → d < M → q_em g m t st (tw_MO_emt fu (iN g) (iN m) n (iN t) false st (iN k.toNat) (iN a) (iN (q_st s xs))) (q_va M xs (k, v)) := by
  intro d
  induction d with
  | zero =>
    intro n M s a t k v xs st ho h hat hgt htm hv hx hs hs2 hn hM
    obtain ⟨n, rfl⟩ : ∃ m, n = m + 1 := ⟨n - 1, by omega⟩
    obtain ⟨M, rfl⟩ : ∃ j, M = j + 1 := ⟨M - 1, by omega⟩
    have k3 : k ≠ 3 := fun e => q_lfk ho (Or.inl e)
    have k4 : k ≠ 4 := fun e => q_lfk ho (Or.inr e)
    unfold tw_MO_emt tw_MO_emit
    cases xs with
    | nil =>
      obtain ⟨r, r1, r2⟩ := r_cp (fu := fu) (o := false) hg h (by omega) (Or.inl hat) hgt (by omega) (by omega)
      obtain ⟨c1, c2, c3⟩ := r2.2.2.2.1 ⟨rfl, by omega⟩
      rw [if_pos (show iN (q_st s []) = 0 from rfl), r_lo ho h (by omega), obs1, r1]
      refine ⟨r.2.2, ?_, c3, r2.1⟩
      unfold q_e3
      rw [obs3, c1, c2]
    | cons x xs =>
      obtain ⟨_, _, _, _, _, s0, s1, _⟩ := r_pq hs
      rw [show q_st s (x :: xs) = s from rfl, if_neg (show ¬ iN s = 0 by simp (disch := omega) only [i_0, iN_a, iN_c, iN_le, iN_lt, iN_eq, iN_i]; omega), i_3, qy_3, if_neg k3, i_4, qy_4, if_neg k4]
      rw [q_vas, if_neg (show ¬ k = 3 from k3), if_neg (show ¬ k = 4 from k4)]
      rfl
  | succ d ih =>
    intro n M s a t k v xs st ho h hat hgt htm hv hx hs hs2 hn hM
    obtain ⟨n, rfl⟩ : ∃ m, n = m + 1 := ⟨n - 1, by omega⟩
    obtain ⟨M, rfl⟩ : ∃ j, M = j + 1 := ⟨M - 1, by omega⟩
    unfold tw_MO_emt tw_MO_emit
    cases xs with
    | nil =>
      obtain ⟨r, r1, r2⟩ := r_cp (fu := fu) (o := false) hg h (by omega) (Or.inl hat) hgt (by omega) (by omega)
      obtain ⟨c1, c2, c3⟩ := r2.2.2.2.1 ⟨rfl, by omega⟩
      rw [if_pos (show iN (q_st s []) = 0 from rfl), r_lo ho h (by omega), obs1, r1]
      refine ⟨r.2.2, ?_, c3, r2.1⟩
      unfold q_e3
      rw [obs3, c1, c2]
    | cons x xs =>
      have HS := hs
      obtain ⟨cc, hcc, hs3, hs4, hs5, s0, s1, s2⟩ := r_pq hs
      obtain ⟨gx1, gx2, gx3, gx4⟩ := hx x List.mem_cons_self
      have ns := r_ns (fu := fu) hcc hs3 gx2 gx3 s1 (by omega)
      rw [hs4] at ns
      have hx' : ∀ y ∈ xs, q_gs y := fun y hy => hx y (List.mem_cons_of_mem _ hy)
      have hsg := hs2 (by simp)
      rw [show q_st s (x :: xs) = s from rfl, if_neg (show ¬ iN s = 0 by simp (disch := omega) only [i_0, iN_a, iN_c, iN_le, iN_lt, iN_eq, iN_i]; omega), i_3, qy_3, i_4, qy_4, q_vas]
      by_cases kb : k = 3 ∨ k = 4
      · obtain ⟨e1, ps, he, rfl, o1, nk⟩ := q_okd ho kb
        obtain rfl : e1 = d := by omega
        have psb := q_psb o1 (show (q_bx ps).length < 4294967296 by omega)
        simp only [psb]
        rw [q_bxl] at hat htm hv
        have pl := q_psl ps
        by_cases k3 : k = 3
        · have me := r_me (fu := fu) hfu hcc hs3 gx2 gx3 s1 h o1 (by rw [q_bxl]; omega) (by rw [q_bxl]; omega)
          rw [if_pos k3, if_pos (show k = 3 from k3), me, obs1]
          cases hy : q_fn x ps with
          | none =>
            dsimp only
            rw [if_pos q_le0]
            rfl
          | some y =>
            obtain ⟨f1, f2, a2, c2, f3, f4⟩ := q_fnm (o := y.1) (y := y.2) hy
            have il := q_inl (a := a2) (c := c2) (x := y.2)
            rw [← f3, ← f4] at il
            have hin : sm st (a + 4 + y.1) (q_e1 y.2) := by
              have h' := h
              rw [f3] at h'
              have := sm_in h'
              rwa [← f4] at this
            have s1 := sm_e1 hin
            obtain ⟨o2, o3⟩ := o1 y.2 f1
            dsimp only
            rw [if_neg (by simp (disch := omega) only [i_0, iN_a, iN_c, iN_le, iN_lt, iN_eq, iN_i]; omega), if_pos (by simp (disch := omega) only [i_0, i_136400, iN_a, iN_c, iN_le, iN_lt, iN_eq, iN_i]; omega), r_vo hin o2 (by omega) (by omega), obs1, ns, obs1, iN_c (by omega), s1.1]
            have I := ih n M (s + x.length + 1) (a + 4 + y.1 + y.2.2.1.length + 2) t y.2.1 y.2.2.2 xs st o3 s1.2.2.2 (by omega) hgt (by omega) (by omega) hx' hs5 (fun _ => by omega) (by omega) (by omega)
            generalize q_va M xs (y.2.1, y.2.2.2) = Z at I
            cases Z with
            | none =>
              replace I : tw_MO_emt fu (iN g) (iN m) n (iN t) false st (iN y.2.1.toNat) (iN (a + 4 + y.1 + y.2.2.1.length + 2)) (iN (q_st (s + x.length + 1) xs)) = some (iN 0, iN t, false, st) := I
              rw [I, obs4]
              rfl
            | some z =>
              obtain ⟨st', I1, I2, I3⟩ := I
              rw [I1, obs4]
              exact ⟨st', rfl, I2, I3⟩
        · have k4 : k = 4 := by
            rcases kb with q | q
            · exact absurd q k3
            · exact q
          rw [if_neg k3, if_pos k4, if_neg (show ¬ k = 3 from k3), if_pos (show k = 4 from k4)]
          obtain ⟨r, r1, r2⟩ := r_op (fu := fu) (g := g) (m := m) (t := t) (o := false) (st := st) hg hgt (by omega) (by omega)
          obtain ⟨c1, c2, c3⟩ := r2.2.2.2.1 ⟨rfl, by show t + 4 ≤ g + m; omega⟩
          replace c1 : r.1 = t + 4 := c1
          have h4 : sm r.2.2 a (q_bx ps) := sm_fr h (fun j h1 h2 => r2.1 j (by rw [q_bxl] at h2; omega))
          rw [r1, obs4, r_fo h4 o1 (by omega), obs1, c1, c2, show iN (t + 4) - 4 = iN t by rw [i_4, iN_s (by omega)]; exact congrArg iN (by omega)]
          have fb : ∀ y ∈ ps, ∀ z, (if y.1 = 3 then q_va M (x :: xs) (y.1, y.2.2) else none) = some z → z.2.length ≤ y.2.2.length ∧ q_ok e1 z.1 z.2 := by
            intro y hy z hz
            have := q_enm hy
            split at hz
            · exact q_vap e1 M y.1 y.2.2 (x :: xs) z (o1 y hy).2 (by omega) hz
            · cases hz
          obtain ⟨st', L1, L2, L3⟩ := r_em_h (fu := fu) (g := g) (m := m) (T := t) (a := a) (d := e1) (s := iN s) (x4 := iN t) (fm := fun top ovr st p0 p1 p2 => tw_MO_emt fu (iN g) (iN m) n top ovr st p0 p1 p2)
            (K := fun (x5_19 : Int32) (x6_19 : Int32) (top_19 : Int32) (ovr_19 : Bool) (st_19 : Nat → Int32) => ob3 (tw_MO_close fu (iN g) (iN m) top_19 ovr_19 st_19 (iN t)) (fun top_20 ovr_20 st_20 => some (iN 4, top_20, ovr_20, st_20)))
            (f := fun y => if y.1 = 3 then q_va M (x :: xs) (y.1, y.2.2) else none) (st0 := r.2.2) hfu hg hgt ps (a + 4) fu 0 (t + 4) [] r.2.2 (sm_ap.1 h4).2 o1 (nk.2 k4) (by omega) (by omega) (by omega) (by omega) (Nat.le_refl _) (by omega) rfl (by omega) c3 (fun _ _ => rfl)
            (fun y _ q => if_neg q) (fun y hy z hz => ⟨(fb y hy z hz).1, fun q => by have := q_okn (fb y hy z hz).2; rw [q] at this; exact this.2 rfl⟩) (by
              intro y hy y3 t' p' st' u1 u2 u3 u4 u5
              have := q_enm hy
              rw [if_pos y3]
              have I := ih n M s p' t' y.1 y.2.2 (x :: xs) st' (o1 y hy).2 u1 u2 (by omega) u4 (by omega) hx (q_sqf HS (fun _ => hsg) (fun j hj => by rw [u5 j (Or.inr hj), r2.1 j (Or.inr hj)])) (fun _ => hsg) (by omega) (by omega)
              rw [y3] at I ⊢
              exact I)
          rw [List.nil_append] at L1 L2
          show q_em g m t st (tw_MO_emit_h85 fu _ (iN g) (iN m) _ (iN s) (iN t) fu (iN ([] : List q_V).length) (iN (q_pt (a + 4) ps)) (iN (t + 4)) false r.2.2) _
          have len := q_rnb (f := fun y => if y.1 = 3 then q_va M (x :: xs) (y.1, y.2.2) else none) ps 0 0 (nk.2 k4) (Nat.le_refl _) (fun y hy z hz => (fb y hy z hz).1)
          generalize hW : ps.filterMap (fun y => if y.1 = 3 then q_va M (x :: xs) (y.1, y.2.2) else none) = W at L1 L2 len ⊢
          obtain ⟨r', t1, t2⟩ := r_cls (fu := fu) (g := g) (m := m) (t := t) (o := false) (st := st) (w := q_en (q_rn 0 W)) (r := (t + 4 + (q_en (q_rn 0 W)).length, false, st')) hg (by omega)
            ⟨fun j hj => (L3 j hj).trans (r2.1 j hj), by show t ≤ t + 4 + _; omega, by show t + 4 + _ ≤ g + m; omega, fun _ => ⟨by simp; omega, rfl, L2⟩, fun q => absurd ⟨rfl, by simp; omega⟩ q⟩ hgt (a := iN t) (fun _ => rfl)
          have bl : (q_l4 ((q_en (q_rn 0 W)).length + 5) ++ (q_en (q_rn 0 W) ++ [0])).length = (q_en (q_rn 0 W)).length + 5 := q_bxl (q_rn 0 W)
          obtain ⟨v1, v2, v3⟩ := t2.2.2.2.1 ⟨rfl, by rw [bl]; omega⟩
          refine ⟨r'.2.2, ?_, v3, t2.1⟩
          refine L1.trans ?_
          dsimp only
          rw [t1]
          unfold q_e3
          rw [obs3, v1, v2]
          rfl
      · have k3 : ¬ k = 3 := fun q => kb (Or.inl q)
        have k4 : ¬ k = 4 := fun q => kb (Or.inr q)
        rw [if_neg k3, if_neg k4, if_neg (show ¬ k = 3 from k3), if_neg (show ¬ k = 4 from k4)]
        rfl
