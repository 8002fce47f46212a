/-! the pure part: the class's way to the leaves -/
abbrev q_S : Type := Int32 × Bool × (Nat → Int32) × (Nat → Int32)
theorem q_k31 {p : Nat} {k : UInt8} (hp : p < 67108000) (hk : k.toNat < 32) : tw_ST_kindOf (iN (32 * p + k.toNat)) = iN k.toNat := q_k hp hk
theorem q_goa {f1 f2 : Int32 → Bool → (Nat → Int32) → (Nat → Int32) → Int32 → Int32 × Bool × (Nat → Int32) × (Nat → Int32)} {pcnt psr pbs : Int32} {b : Nat → UInt8} {pst pen pix : Nat → Int32} {plc : Int32} {pms : Bool} {plv psn : Nat → Int32} {p0 p1 p2 : Int32} (h0 : ¬ p1 < 0) (h1 : pcnt ≤ p1) :
    tw_PA_goOn f1 f2 pcnt psr pbs b pst pen pix plc pms plv psn p0 p1 p2 = (let S := tw_PA_meet psr pbs plc pms plv psn p0; if tw_ST_kindOf p0 = 4 then tw_PA_meetItems psr pbs b S.1 S.2.1 S.2.2.1 S.2.2.2 p0 else S) := by
  unfold tw_PA_goOn
  rw [if_neg h0, if_pos h1]
  rfl
theorem q_gob {f1 f2 : Int32 → Bool → (Nat → Int32) → (Nat → Int32) → Int32 → Int32 × Bool × (Nat → Int32) × (Nat → Int32)} {pcnt psr pbs : Int32} {b : Nat → UInt8} {pst pen pix : Nat → Int32} {plc : Int32} {pms : Bool} {plv psn : Nat → Int32} {p0 p1 p2 : Int32} (h0 : ¬ p1 < 0) (h1 : ¬ pcnt ≤ p1) (h8 : p1 < 8) (h2 : ¬ 40 ≤ p2)
    (hk : tw_ST_kindOf p0 = 3) :
    tw_PA_goOn f1 f2 pcnt psr pbs b pst pen pix plc pms plv psn p0 p1 p2 = if tw_ST_find b p0 (pst p1.toNatClampNeg) (pen p1.toNatClampNeg) = 0 then tw_PA_meet psr pbs plc pms plv psn 0 else f1 plc pms plv psn (tw_ST_find b p0 (pst p1.toNatClampNeg) (pen p1.toNatClampNeg)) := by
  unfold tw_PA_goOn
  rw [if_neg h0, if_neg h1, if_pos h8, if_pos hk, if_neg h2]
  rfl
theorem q_goc {f1 f2 : Int32 → Bool → (Nat → Int32) → (Nat → Int32) → Int32 → Int32 × Bool × (Nat → Int32) × (Nat → Int32)} {pcnt psr pbs : Int32} {b : Nat → UInt8} {pst pen pix : Nat → Int32} {plc : Int32} {pms : Bool} {plv psn : Nat → Int32} {p0 p1 p2 : Int32} (h0 : ¬ p1 < 0) (h1 : ¬ pcnt ≤ p1) (h8 : p1 < 8) (h2 : ¬ 40 ≤ p2)
    (hk3 : ¬ tw_ST_kindOf p0 = 3) (hk : tw_ST_kindOf p0 = 4) :
    tw_PA_goOn f1 f2 pcnt psr pbs b pst pen pix plc pms plv psn p0 p1 p2 = if 0 ≤ pix p1.toNatClampNeg then (if tw_ST_item b p0 (pix p1.toNatClampNeg) = 0 then f2 plc pms plv psn p0 else
      (let S := f1 plc pms plv psn (tw_ST_item b p0 (pix p1.toNatClampNeg)); f2 S.1 S.2.1 S.2.2.1 S.2.2.2 p0)) else f2 plc pms plv psn p0 := by
  unfold tw_PA_goOn
  rw [if_neg h0, if_neg h1, if_pos h8, if_neg hk3, if_pos hk, if_neg h2]
  rfl
theorem q_god {f1 f2 : Int32 → Bool → (Nat → Int32) → (Nat → Int32) → Int32 → Int32 × Bool × (Nat → Int32) × (Nat → Int32)} {pcnt psr pbs : Int32} {b : Nat → UInt8} {pst pen pix : Nat → Int32} {plc : Int32} {pms : Bool} {plv psn : Nat → Int32} {p0 p1 p2 : Int32} (h0 : ¬ p1 < 0) (h1 : ¬ pcnt ≤ p1) (h8 : p1 < 8)
    (hk3 : ¬ tw_ST_kindOf p0 = 3) (hk : ¬ tw_ST_kindOf p0 = 4) :
    tw_PA_goOn f1 f2 pcnt psr pbs b pst pen pix plc pms plv psn p0 p1 p2 = tw_PA_meet psr pbs plc pms plv psn 0 := by
  unfold tw_PA_goOn
  rw [if_neg h0, if_neg h1, if_pos h8, if_neg hk3, if_neg hk]
  rfl
theorem q_lvn (m : Nat) (z : q_L) : q_lv (m + 1) [] z = z :: (if z.2.1 = 4 then q_lc (z.1 + 4) (q_ps z.2.2) else []) := rfl
theorem q_lvs (m : Nat) (x : List UInt8) (xs : List (List UInt8)) (z : q_L) : q_lv (m + 1) (x :: xs) z = 
    if z.2.1 = 3 then (match q_fn x (q_ps z.2.2) with | none => [q_ms] | some y => q_lv m xs (z.1 + 4 + y.1 + y.2.2.1.length + 2, y.2.1, y.2.2.2))
    else if z.2.1 = 4 then (match q_fn x (q_ps z.2.2) with | none => [] | some y => q_lv m xs (z.1 + 4 + y.1 + y.2.2.1.length + 2, y.2.1, y.2.2.2)) ++
      ((q_lc (z.1 + 4) (q_ps z.2.2)).filter (fun w => w.2.1 == 3)).flatMap (q_lv m (x :: xs))
    else [q_ms] := rfl
theorem q_fv0 {e : Nat} {z : Nat × q_P} {d : Nat} (h : q_ok d z.2.1 z.2.2.2) (he : e + z.1 + z.2.2.1.length + 2 < 67108000) : q_fv e (some z) ≠ 0 := by
  have := q_okn h
  show iN _ ≠ 0
  simp (disch := omega) only [i_0, ne_eq, iN_a, iN_c, iN_le, iN_lt, iN_eq, iN_i]
  omega
theorem q_go {b : Nat → UInt8} {p : Nat} {psr : Int32} {pn pst pen pix : Nat → Int32} {xs : List (List UInt8)} (hp : p < 190000) (hx : ∀ x ∈ xs, q_gs x) (hx8 : xs.length ≤ 8) (hpa : q_pa b pst pen pix xs) :
    ∀ (d n m j D o : Nat) (k : UInt8) (v : List UInt8) (acc : List q_L) (plc : Int32) (pms : Bool) (plv psn : Nat → Int32), q_ok d k v → sb b (p + o) v → o < 2000 → o + v.length ≤ 2000 → j ≤ xs.length → d ≤ n → d < m → D + d < 40 → q_ls p psr pn acc (plc, pms, plv, psn) →
    (q_dd acc (q_lv m (xs.drop j) (o, k, v))).length ≤ 1001 → q_ls p psr pn (q_dd acc (q_lv m (xs.drop j) (o, k, v))) (tw_PA_gok (iN xs.length) psr (iN p) b pst pen pix n (iN j) (iN D) plc pms plv psn (iN (32 * (p + o) + k.toNat))) := by
  intro d
  induction d with
  | zero =>
    intro n m j D o k v acc plc pms plv psn ho h ho2 hv hj hn hm hD hS hl
    obtain ⟨m, rfl⟩ : ∃ j, m = j + 1 := ⟨m - 1, by omega⟩
    have k3 : k ≠ 3 := fun e => q_lfk ho (Or.inl e)
    have k4 : k ≠ 4 := fun e => q_lfk ho (Or.inr e)
    have kn := q_okn ho
    have k0 : k ≠ 0 := by
      intro q
      rw [q] at kn
      exact kn.2 rfl
    have uk := q_u8 k
    have kd := q_k31 (p := p + o) (by omega) kn.1
    have h0 : ¬ iN j < 0 := by
      simp (disch := omega) only [i_0, iN_a, iN_c, iN_le, iN_lt, iN_eq, iN_i]
      omega
    have er : q_rl p (o, k, v) = iN (32 * (p + o) + k.toNat) := if_neg k0
    have nk3 : ¬ tw_ST_kindOf (iN (32 * (p + o) + k.toNat)) = 3 := by
      rw [kd]
      simp (disch := omega) only [i_3, iN_a, iN_c, iN_le, iN_lt, iN_eq, iN_i, qk_3]
      exact k3
    have nk4 : ¬ tw_ST_kindOf (iN (32 * (p + o) + k.toNat)) = 4 := by
      rw [kd]
      simp (disch := omega) only [i_4, iN_a, iN_c, iN_le, iN_lt, iN_eq, iN_i, qk_4]
      exact k4
    by_cases hjl : j = xs.length
    · have e : xs.drop j = [] := by
        rw [hjl]
        exact List.drop_length
      rw [e, q_lvn, if_neg (show ¬ k = 4 from k4)] at hl ⊢
      have G : tw_PA_gok (iN xs.length) psr (iN p) b pst pen pix n (iN j) (iN D) plc pms plv psn (iN (32 * (p + o) + k.toNat)) = tw_PA_meet psr (iN p) plc pms plv psn (iN (32 * (p + o) + k.toNat)) := by
        cases n with
        | zero =>
          unfold tw_PA_gok
          rw [q_goa h0 (by rw [hjl]; exact Int32.le_refl _)]
          exact if_neg nk4
        | succ n =>
          unfold tw_PA_gok
          rw [q_goa h0 (by rw [hjl]; exact Int32.le_refl _)]
          exact if_neg nk4
      rw [G, ← er]
      exact q_mt hS (Or.inr ⟨kn.1, k0, by show o < 2000; omega⟩) (by omega) hl
    · have h1 : ¬ iN xs.length ≤ iN j := by
        simp (disch := omega) only [iN_a, iN_c, iN_le, iN_lt, iN_eq, iN_i]
        omega
      have h8 : iN j < 8 := by
        simp (disch := omega) only [i_8, iN_a, iN_c, iN_le, iN_lt, iN_eq, iN_i]
        omega
      rw [List.drop_eq_getElem_cons (by omega), q_lvs, if_neg (show ¬ k = 3 from k3), if_neg (show ¬ k = 4 from k4)] at hl ⊢
      have G : tw_PA_gok (iN xs.length) psr (iN p) b pst pen pix n (iN j) (iN D) plc pms plv psn (iN (32 * (p + o) + k.toNat)) = tw_PA_meet psr (iN p) plc pms plv psn 0 := by
        cases n with
        | zero =>
          unfold tw_PA_gok
          exact q_god h0 h1 h8 nk3 nk4
        | succ n =>
          unfold tw_PA_gok
          exact q_god h0 h1 h8 nk3 nk4
      rw [G, show (0 : Int32) = q_rl p q_ms from rfl]
      exact q_mt hS (Or.inl rfl) (by omega) hl
  | succ d ih =>
    intro n m j D o k v acc plc pms plv psn ho h ho2 hv hj hn hm hD hS hl
    obtain ⟨m, rfl⟩ : ∃ j, m = j + 1 := ⟨m - 1, by omega⟩
    obtain ⟨n, rfl⟩ : ∃ j, n = j + 1 := ⟨n - 1, by omega⟩
    have kn := q_okn ho
    have k0 : k ≠ 0 := by
      intro q
      rw [q] at kn
      exact kn.2 rfl
    have uk := q_u8 k
    have kd := q_k31 (p := p + o) (by omega) kn.1
    have h0 : ¬ iN j < 0 := by
      simp (disch := omega) only [i_0, iN_a, iN_c, iN_le, iN_lt, iN_eq, iN_i]
      omega
    have h40 : ¬ 40 ≤ iN D := by
      simp (disch := omega) only [i_40, iN_a, iN_c, iN_le, iN_lt, iN_eq, iN_i]
      omega
    have er : q_rl p (o, k, v) = iN (32 * (p + o) + k.toNat) := if_neg k0
    have kk3 : tw_ST_kindOf (iN (32 * (p + o) + k.toNat)) = 3 ↔ k = 3 := by
      rw [kd]
      simp (disch := omega) only [i_3, iN_a, iN_c, iN_le, iN_lt, iN_eq, iN_i, qk_3]
    have kk4 : tw_ST_kindOf (iN (32 * (p + o) + k.toNat)) = 4 ↔ k = 4 := by
      rw [kd]
      simp (disch := omega) only [i_4, iN_a, iN_c, iN_le, iN_lt, iN_eq, iN_i, qk_4]
    unfold tw_PA_gok
    by_cases hjl : j = xs.length
    · have e : xs.drop j = [] := by
        rw [hjl]
        exact List.drop_length
      rw [e, q_lvn] at hl ⊢
      rw [q_goa h0 (by rw [hjl]; exact Int32.le_refl _)]
      have M := q_mt (z := (o, k, v)) hS (Or.inr ⟨kn.1, k0, by show o < 2000; omega⟩) (by omega) (Nat.le_trans (q_ddl (if k = 4 then q_lc (o + 4) (q_ps v) else []) _) hl)
      rw [er] at M
      by_cases k4 : k = 4
      · obtain ⟨e1, ps, he, rfl, o1, _⟩ := q_okd ho (Or.inr k4)
        dsimp only
        rw [if_pos (kk4.2 k4)]
        simp only [q_psb o1 (show (q_bx ps).length < 4294967296 by omega)] at hl ⊢
        rw [if_pos (show k = 4 from k4)] at hl ⊢
        have pl := q_psl ps
        rw [q_bxl] at hv
        unfold tw_PA_meetItems
        rw [q_eo4 (sb_bx h).1 (by omega) (by omega) (Or.inr k4)]
        unfold tw_ST_placeOf
        simp (disch := omega) only [i_0, i_1, i_4, i_5, i_31, i_1000, q_p, iN_a, iN_c, iN_le, iN_lt, iN_eq, iN_i, iN_s]
        rw [show p + o + ((q_en ps).length + 5) - 1 = p + (o + 4) + (q_en ps).length by omega, show p + o + 4 = p + (o + 4) by omega]
        refine q_mi_h (d := e1) hp ps (o + 4) _ 0 _ _ _ _ _ ?_ o1 (by omega) (by omega) (by omega) M hl
        rw [← Nat.add_assoc]
        exact (sb_bx h).2.1
      · dsimp only
        rw [if_neg (fun q => k4 (kk4.1 q))]
        rw [if_neg (show ¬ k = 4 from k4)]
        exact M
    · have h1 : ¬ iN xs.length ≤ iN j := by
        simp (disch := omega) only [iN_a, iN_c, iN_le, iN_lt, iN_eq, iN_i]
        omega
      have h8 : iN j < 8 := by
        simp (disch := omega) only [i_8, iN_a, iN_c, iN_le, iN_lt, iN_eq, iN_i]
        omega
      have jl : j < xs.length := by omega
      rw [List.drop_eq_getElem_cons jl, q_lvs] at hl ⊢
      obtain ⟨a, pa1, pa2, pa3, pa4, pa5⟩ := hpa j xs[j] (List.getElem?_eq_getElem jl)
      have gx := hx xs[j] (List.getElem_mem jl)
      by_cases kb : k = 3 ∨ k = 4
      · obtain ⟨e1, ps, he, rfl, o1, nk⟩ := q_okd ho kb
        obtain rfl : e1 = d := by omega
        have psb := q_psb o1 (show (q_bx ps).length < 4294967296 by omega)
        simp only [psb] at hl ⊢
        have pl := q_psl ps
        have hv' := hv
        rw [q_bxl] at hv
        have fi := q_fi (x := xs[j]) kb h o1 (by omega) (by omega) pa3 (by omega)
        -- the element that was found
        have step : ∀ (y : Nat × q_P), q_fn xs[j] ps = some y → (∀ acc plc pms plv psn, q_ls p psr pn acc (plc, pms, plv, psn) → (q_dd acc (q_lv m (xs.drop (j + 1)) (o + 4 + y.1 + y.2.2.1.length + 2, y.2.1, y.2.2.2))).length ≤ 1001 →
            q_ls p psr pn (q_dd acc (q_lv m (xs.drop (j + 1)) (o + 4 + y.1 + y.2.2.1.length + 2, y.2.1, y.2.2.2))) (tw_PA_gok (iN xs.length) psr (iN p) b pst pen pix n (iN j + 1) (iN D + 1) plc pms plv psn (q_fv (p + o + 4) (some y)))) ∧ q_fv (p + o + 4) (some y) ≠ 0 := by
          intro y hy
          obtain ⟨f1, f2, a, c2, f3, f4⟩ := q_fnm (o := y.1) (y := y.2) hy
          have il := q_inl (a := a) (c := c2) (x := y.2)
          rw [← f3, ← f4] at il
          have hin : sb b (p + o + 4 + y.1) (q_e1 y.2) := by
            have h' := h
            rw [f3] at h'
            have := sb_in h'
            rwa [← f4] at this
          have s1 := sb_e1 hin
          obtain ⟨o2, o3⟩ := o1 y.2 f1
          refine ⟨?_, q_fv0 o3 (by omega)⟩
          intro acc plc pms plv psn hS hl
          have := ih n m (j + 1) (D + 1) (o + 4 + y.1 + y.2.2.1.length + 2) y.2.1 y.2.2.2 acc plc pms plv psn o3 ?_ (by omega) (by omega) (by omega) (by omega) (by omega) (by omega) hS hl
          · have e3 : q_fv (p + o + 4) (some y) = iN (32 * (p + (o + 4 + y.1 + y.2.2.1.length + 2)) + y.2.1.toNat) := congrArg iN (by omega)
            rw [e3, show iN j + 1 = iN (j + 1) from iN_a j 1, show iN D + 1 = iN (D + 1) from iN_a D 1]
            exact this
          · have := s1.2.2.2
            rwa [show p + o + 4 + y.1 + y.2.2.1.length + 2 = p + (o + 4 + y.1 + y.2.2.1.length + 2) by omega] at this
        by_cases k3 : k = 3
        · rw [if_pos (show k = 3 from k3)] at hl ⊢
          rw [q_gob h0 h1 h8 h40 (kk3.2 k3), iN_c (by omega), pa1, pa2, fi]
          cases hy : q_fn xs[j] ps with
          | none =>
            rw [hy] at hl
            rw [if_pos (show q_fv (p + o + 4) none = 0 from rfl), show (0 : Int32) = q_rl p q_ms from rfl]
            exact q_mt hS (Or.inl rfl) (by omega) hl
          | some y =>
            rw [hy] at hl
            obtain ⟨t1, t2⟩ := step y hy
            rw [if_neg t2]
            exact t1 acc plc pms plv psn hS hl
        · have k4 : k = 4 := by
            rcases kb with q | q
            · exact absurd q k3
            · exact q
          rw [if_neg (show ¬ k = 3 from k3), if_pos (show k = 4 from k4), q_dda] at hl ⊢
          have tail : ∀ (acc : List q_L) (S : q_S), q_ls p psr pn acc S → (q_dd acc (((q_lc (o + 4) ps).filter (fun w => w.2.1 == 3)).flatMap (q_lv m (xs[j] :: xs.drop (j + 1))))).length ≤ 1001 →
              q_ls p psr pn (q_dd acc (((q_lc (o + 4) ps).filter (fun w => w.2.1 == 3)).flatMap (q_lv m (xs[j] :: xs.drop (j + 1))))) (tw_PA_goOnAtItems (fun plc pms plv psn z => tw_PA_gok (iN xs.length) psr (iN p) b pst pen pix n (iN j) (iN D + 1) plc pms plv psn z) b S.1 S.2.1 S.2.2.1 S.2.2.2 (iN (32 * (p + o) + k.toNat)) (iN j) (iN D)) := by
            intro acc S hS hl
            unfold tw_PA_goOnAtItems
            rw [q_eo4 (sb_bx h).1 (by omega) (by omega) kb]
            unfold tw_ST_placeOf
            simp (disch := omega) only [i_0, i_1, i_4, i_5, i_31, i_1000, q_p, iN_a, iN_c, iN_le, iN_lt, iN_eq, iN_i, iN_s]
            rw [show p + o + ((q_en ps).length + 5) - 1 = p + (o + 4) + (q_en ps).length by omega, show p + o + 4 = p + (o + 4) by omega]
            refine q_gi_h (d := e1) (g := q_lv m (xs[j] :: xs.drop (j + 1))) hp ps (o + 4) _ 0 acc _ _ _ _ ?_ o1 (by omega) (by omega) (by omega) hS hl ?_
            · rw [← Nat.add_assoc]
              exact (sb_bx h).2.1
            · intro z hz z3 acc plc pms plv psn hS hl
              obtain ⟨a, y, c3, f3, f4⟩ := q_lcn hz
              subst f4
              have il := q_inl (a := a) (c := c3) (x := y)
              rw [← f3] at il
              have hin : sb b (p + o + 4 + (q_en a).length) (q_e1 y) := by
                have h' := h
                rw [f3] at h'
                exact sb_in h'
              have s1 := sb_e1 hin
              have ym : y ∈ ps := by
                rw [f3]
                simp
              obtain ⟨o2, o3⟩ := o1 y ym
              have z3' : y.1 = 3 := z3
              rw [← List.drop_eq_getElem_cons jl] at hl ⊢
              have := ih n m j (D + 1) (o + 4 + (q_en a).length + y.2.1.length + 2) y.1 y.2.2 acc plc pms plv psn o3 ?_ (by omega) (by omega) (by omega) (by omega) (by omega) (by omega) hS hl
              · rw [z3'] at this ⊢
                exact this
              · have := s1.2.2.2
                rwa [show p + o + 4 + (q_en a).length + y.2.1.length + 2 = p + (o + 4 + (q_en a).length + y.2.1.length + 2) by omega] at this
          rw [q_goc h0 h1 h8 h40 (fun q => k3 (kk3.1 q)) (kk4.2 k4), iN_c (by omega), pa5]
          have nfn := q_nfn (x := xs[j]) ps 0 (nk.2 k4) (by omega)
          cases hix : q_ix xs[j] with
          | none =>
            rw [hix] at nfn
            rw [nfn] at hl ⊢
            rw [if_neg (show ¬ (0 : Int32) ≤ -1 by decide)]
            exact tail acc (plc, pms, plv, psn) hS hl
          | some i =>
            rw [hix] at nfn
            replace nfn : q_fn xs[j] ps = if i < 0 then none else q_it (i - 0) ps := nfn
            rw [if_neg (by omega), Nat.sub_zero] at nfn
            have il : i < 100000 := q_ixl hix
            have im := q_im (j := i) il h o1 (by omega) (by omega)
            rw [← nfn] at im
            rw [if_pos (show (0 : Int32) ≤ iN i from q_p0 (by omega)), show iN (32 * (p + o) + k.toNat) = iN (32 * (p + o) + 4) by rw [k4]; rfl, im]
            rw [show iN (32 * (p + o) + k.toNat) = iN (32 * (p + o) + 4) by rw [k4]; rfl] at tail
            cases hy : q_fn xs[j] ps with
            | none =>
              rw [hy] at hl
              rw [if_pos (show q_fv (p + o + 4) none = 0 from rfl)]
              exact tail acc (plc, pms, plv, psn) hS hl
            | some y =>
              rw [hy] at hl
              obtain ⟨t1, t2⟩ := step y hy
              rw [if_neg t2]
              have hl1 := Nat.le_trans (q_ddl _ _) hl
              exact tail _ _ (t1 acc plc pms plv psn hS hl1) hl
      · have k3 : ¬ k = 3 := fun q => kb (Or.inl q)
        have k4 : ¬ k = 4 := fun q => kb (Or.inr q)
        rw [if_neg (show ¬ k = 3 from k3), if_neg (show ¬ k = 4 from k4)] at hl ⊢
        rw [q_god h0 h1 h8 (fun q => k3 (kk3.1 q)) (fun q => k4 (kk4.1 q)), show (0 : Int32) = q_rl p q_ms from rfl]
        exact q_mt hS (Or.inl rfl) (by omega) hl
