/-! the pure part: the class's $sort as a whole -/
def q_sf : List q_P → Nat
  | [] => 0
  | x :: r => if q_sgs x = true then (if (q_po x.2.1).isSome = true then q_sf r else 3) else 2
theorem q_sfc (x : q_P) (r : List q_P) : q_sf (x :: r) = if q_sgs x = true then (if (q_po x.2.1).isSome = true then q_sf r else 3) else 2 := rfl
def q_ft4 (k : UInt8) (v : List UInt8) : Nat := if k = 3 then (if 1 ≤ (q_ps v).length ∧ (q_ps v).length ≤ 4 then q_sf (q_ps v) else 2) else 2
theorem q_kAn {b : Nat → UInt8} {k0 k1 k2 k3 sg k0' k1' k2' k3' sg' : Nat → Int32} {F : List (List UInt8)} {ks : List q_K} {κ : q_K} (h : q_kA b k0 k1 k2 k3 sg F ks) (h4 : ks.length < 4) (h1 : ∀ i', i' < 4 → i' ≠ ks.length → q_sel i' k0' k1' k2' k3' = q_sel i' k0 k1 k2 k3) (h2 : q_ka b (q_sel ks.length k0' k1' k2' k3') κ F F.length) (h3 : sg' = upd sg ks.length (if κ.1 = true then 1 else -1)) : q_kA b k0' k1' k2' k3' sg' F (ks ++ [κ]) := by
  intro j κ' hj
  have jl := (List.getElem?_eq_some_iff.1 hj).1
  rw [List.length_append, List.length_singleton] at jl
  by_cases c : j = ks.length
  · subst c
    rw [List.getElem?_append_right (Nat.le_refl _), Nat.sub_self] at hj
    cases hj
    rw [h3, q_upe]
    exact ⟨h2, rfl⟩
  · rw [List.getElem?_append_left (by omega)] at hj
    obtain ⟨a1, a2⟩ := h j κ' hj
    rw [h1 j (by omega) c, h3, q_upn c]
    exact ⟨a1, a2⟩
theorem q_tp8 {T1 T2 T3 T4 T5 T6 T7 T8 Z : Type} (x1 : T1) (x2 : T2) (x3 : T3) (x4 : T4) (x5 : T5) (x6 : T6) (x7 : T7) (x8 : T8) (f : T1 → T2 → T3 → T4 → T5 → T6 → T7 → T8 → Z) : tp8 (x1, x2, x3, x4, x5, x6, x7, x8) f = f x1 x2 x3 x4 x5 x6 x7 x8 := rfl
theorem c_so_h {b : Nat → UInt8} {fb nb d : Nat} {fcnt ncnt place limit : Int32} {full : Bool} {fsts nsts ord : Nat → Int32} {F : List (List UInt8)} (hd : fb + 40000 ≤ nb ∨ nb + 40000 ≤ fb) (hb : q_be b fb fcnt fsts F) (h : q_be b nb ncnt nsts []) :
    ∀ (qs : List q_P) (e n r : Nat) (dn : List q_K) (pcnt : Int32) (pfix : Bool) (plc pbs : Int32) (pms : Bool) (pst pen pix plv psn k0 k1 k2 k3 sg : Nat → Int32), sb b e (q_en qs) → q_op d qs → e + (q_en qs).length < 2000 → qs.length < n → dn.length + qs.length ≤ 4 → r + 200 * qs.length < 2000000000 → q_psn psn r → q_kA b k0 k1 k2 k3 sg F dn →
    ∃ C st' pl l f b' c s pc pf plc' r' pbs' pms' pst' pen' pix' plv' psn' k0' k1' k2' k3' sg' ord' M, tw_SO_sort_h49 (iN fb) (iN nb) fcnt fsts n (iN e) (iN dn.length) (iN (dn.length + qs.length)) place limit full b ncnt nsts pcnt pfix plc (iN r) pbs pms pst pen pix plv psn k0 k1 k2 k3 sg ord = (C, st', pl, l, f, b', c, s, pc, pf, plc', iN r', pbs', pms', pst', pen', pix', plv', psn', k0', k1', k2', k3', sg', ord') ∧ q_be b' nb c s M ∧ (q_sf qs = 0 → ∃ σ, q_so F (dn ++ qs.map q_key) σ ∧ C = q_05 (q_run (some []) (σ.map (fun y => F.getD y []))) ∧ ∀ R, q_run (some []) (σ.map (fun y => F.getD y [])) = some R → M = R) ∧ (q_sf qs ≠ 0 → C = iN (q_sf qs)) ∧ r' ≤ r + 200 * qs.length ∧ q_psn psn' r' ∧ (∀ j, j < nb ∨ nb + 40000 ≤ j → b' j = b j) := by
  have F1 := hb.2.2.2.1.1
  intro qs
  induction qs with
  | nil =>
    intro e n r dn pcnt pfix plc pbs pms pst pen pix plv psn k0 k1 k2 k3 sg _ _ _ hn h4 hr hs hA
    obtain ⟨n, rfl⟩ : ∃ m, n = m + 1 := ⟨n - 1, by omega⟩
    obtain ⟨p2, l2, f2, b2, c2, s2, ord', M, σ, e1, e2, e3, e4, e5⟩ := c_kio (place := place) (limit := limit) (full := full) (ord := ord) hd hA (by omega) hb h
    unfold tw_SO_sort_h49
    rw [List.length_nil, Nat.add_zero, if_pos (Int32.le_refl _), e1, q_tp8]
    refine ⟨_, _, _, _, _, _, _, _, _, _, _, r, _, _, _, _, _, _, _, _, _, _, _, _, _, M, rfl, e3, fun _ => ⟨σ, ?_, rfl, e4⟩, fun q => absurd rfl q, by omega, hs, e5⟩
    rw [List.map_nil, List.append_nil]
    exact e2
  | cons x qs ih =>
    intro e n r dn pcnt pfix plc pbs pms pst pen pix plv psn k0 k1 k2 k3 sg hq ho he hn h4 hr hs hA
    rw [List.length_cons] at hn h4 hr
    obtain ⟨n, rfl⟩ : ∃ m, n = m + 1 := ⟨n - 1, by omega⟩
    obtain ⟨h1, h2⟩ := sb_en hq
    obtain ⟨ha, hx⟩ := ho x List.mem_cons_self
    have e1 := q_e1l x
    have e2 := q_enl x qs
    have kx := (q_okn hx).1
    have s1 := sb_e1 h1
    unfold tw_SO_sort_h49
    rw [List.length_cons, if_neg (by simp (disch := omega) only [iN_a, iN_c, iN_le, iN_lt, iN_eq, iN_i]; omega), q_vo h1 kx ha (by omega), c_isg hx s1.2.2.2 (by omega), q_sfc]
    cases c1 : q_sgs x with
    | false =>
      rw [if_pos (show b2i false = 0 from rfl), if_neg (show ¬ false = true by decide)]
      exact ⟨_, _, _, _, _, _, _, _, _, _, _, r, _, _, _, _, _, _, _, _, _, _, _, _, _, [], rfl, h, (fun q => absurd q (by decide)), (fun _ => rfl), by omega, hs, fun _ _ => rfl⟩
    | true =>
      have cl : q_cl x.1 = 2 := by
        unfold q_sgs at c1
        rw [Bool.and_eq_true] at c1
        exact of_decide_eq_true c1.1
      rw [if_neg (show ¬ b2i true = 0 by decide), if_pos (show true = true from rfl), show tw_ST_placeOf (iN (32 * (e + x.2.1.length + 2) + x.1.toNat)) = iN (e + x.2.1.length + 2) from q_p (by omega) kx, iN_s1 (by omega), show e + x.2.1.length + 2 - 1 = e + 1 + x.2.1.length by omega, show iN e + 1 = iN (e + 1) from iN_a e 1, q_tp6, q_eo hx s1.2.2.2 (by omega), show e + x.2.1.length + 2 + x.2.2.length = e + (q_e1 x).length by omega, q_cnu hx cl s1.2.2.2 (by omega), q_sgv c1, iN_c (by omega)]
      have R := q_rd (pcnt := pcnt) (pfix := pfix) (pst := pst) (pen := pen) (pix := pix) s1.2.1 (by omega)
      by_cases g : q_gp true x.2.1 = true ∧ q_dc x.2.1 < 8
      · obtain ⟨ps, pe, px, r1, r2⟩ := R.1 g
        have po : q_po x.2.1 = some (q_sl [] x.2.1) := by
          unfold q_po
          rw [if_pos g]
        obtain ⟨_, p2, p3, p4⟩ := q_pok po
        have ky : (q_key x).2 = q_sl [] x.2.1 := by
          unfold q_key
          rw [po]
          rfl
        rw [r1, po, if_pos (show (some (q_sl [] x.2.1)).isSome = true from rfl)]
        dsimp only
        rw [if_neg (show ¬ b2i true = 0 by decide)]
        obtain ⟨a1, a2, a3, a4, a5, a6, a7, a8, a9, g1, g2, g3, g4⟩ := c_fk_h (u := (q_key x).1) (j := dn.length) (sg := upd sg dn.length (if (q_key x).1 = true then 1 else -1)) hb p4 p2 p3 r2 (by omega) q_upe F.length 0 (((200 : Int32).toInt - (0 : Int32).toInt).toNat + 1) r plc pbs pms plv psn k0 k1 k2 k3 (by omega) (by rw [show ((200 : Int32).toInt - (0 : Int32).toInt).toNat + 1 = 201 from rfl]; omega) (by omega) hs (fun i d q => absurd q (by omega))
        rw [← ky] at g3
        have hA' := q_kAn (κ := q_key x) hA (by omega) g4 g3 rfl
        unfold tw_SO_findKeys
        rw [show (0 : Int32) = iN 0 from rfl] at *
        rw [g1, q_tp10]
        have I := ih (e + (q_e1 x).length) n (r + F.length) (dn ++ [q_key x]) (iN (q_sl [] x.2.1).length) false a1 a2 a3 ps pe px a4 a5 a6 a7 a8 a9 (upd sg dn.length (if (q_key x).1 = true then 1 else -1)) h2 (fun y hy => ho y (List.mem_cons_of_mem _ hy)) (by omega) (by omega) (by rw [List.length_append, List.length_singleton]; omega) (by omega) g2 hA'
        rw [List.length_append, List.length_singleton, show dn.length + 1 + qs.length = dn.length + (qs.length + 1) by omega, List.append_assoc] at I
        rw [show iN dn.length + 1 = iN (dn.length + 1) from iN_a _ 1, List.map_cons]
        obtain ⟨C, t2, t3, t4, t5, t6, t7, t8, t9, t10, t11, r', t13, t14, t15, t16, t17, t18, t19, t20, t21, t22, t23, t24, t25, M, u1, u2, u3, u4, u5, u6, u7⟩ := I
        exact ⟨C, t2, t3, t4, t5, t6, t7, t8, t9, t10, t11, r', t13, t14, t15, t16, t17, t18, t19, t20, t21, t22, t23, t24, t25, M, u1, u2, u3, u4, by omega, u6, u7⟩
      · have po : q_po x.2.1 = none := by
          unfold q_po
          rw [if_neg g]
        rw [R.2 g, po, if_pos (show b2i false = 0 from rfl), if_neg (show ¬ (none : Option (List (List UInt8))).isSome = true by decide)]
        exact ⟨_, _, _, _, _, _, _, _, _, _, _, r, _, _, _, _, _, _, _, _, _, _, _, _, _, [], rfl, h, (fun q => absurd q (by decide)), (fun _ => rfl), by omega, hs, fun _ _ => rfl⟩
theorem c_so {b : Nat → UInt8} {fb nb p D r : Nat} {fcnt ncnt place limit sorts pcnt plc pbs : Int32} {full pfix pms : Bool} {fsts nsts ord pst pen pix plv psn k0 k1 k2 k3 sg : Nat → Int32} {F : List (List UInt8)} {k : UInt8} {v : List UInt8} (hd : fb + 40000 ≤ nb ∨ nb + 40000 ≤ fb) (hb : q_be b fb fcnt fsts F) (h : q_be b nb ncnt nsts []) (ho : q_ok D k v) (hs : sb b p v) (hp : p + v.length ≤ 2000) (hr : r + 800 < 2000000000) (hn : q_psn psn r) :
    ∃ C st' pl l f b' c s pc pf plc' r' pbs' pms' pst' pen' pix' plv' psn' k0' k1' k2' k3' sg' ord' M, tw_SO_sort (iN fb) (iN nb) fcnt fsts sorts place limit full b ncnt nsts pcnt pfix plc (iN r) pbs pms pst pen pix plv psn k0 k1 k2 k3 sg ord (iN (32 * p + k.toNat)) = (C, st', pl, l, f, b', c, s, pc, pf, plc', iN r', pbs', pms', pst', pen', pix', plv', psn', k0', k1', k2', k3', sg', ord') ∧ q_be b' nb c s M ∧ (q_ft4 k v = 0 → ∃ σ, q_so F ((q_ps v).map q_key) σ ∧ C = q_05 (q_run (some []) (σ.map (fun y => F.getD y []))) ∧ ∀ R, q_run (some []) (σ.map (fun y => F.getD y [])) = some R → M = R) ∧ (q_ft4 k v ≠ 0 → C = iN (q_ft4 k v)) ∧ r' ≤ r + 800 ∧ q_psn psn' r' ∧ (∀ j, j < nb ∨ nb + 40000 ≤ j → b' j = b j) := by
  have kk := (q_okn ho).1
  unfold tw_SO_sort q_ft4
  rw [show tw_ST_kindOf (iN (32 * p + k.toNat)) = iN k.toNat from q_k (by omega) kk]
  by_cases k3 : k = 3
  rotate_left
  · rw [if_neg (fun z => k3 (by rw [show (3 : Int32) = iN 3 from rfl, iN_eq (by omega) (by omega), q_ko k 3 (by omega)] at z; exact z)), if_neg k3]
    exact ⟨_, _, _, _, _, _, _, _, _, _, _, r, _, _, _, _, _, _, _, _, _, _, _, _, _, [], rfl, h, (fun q => absurd q (by decide)), (fun _ => rfl), by omega, hn, fun _ _ => rfl⟩
  subst k3
  obtain ⟨e, ps, he, rfl, o1, o2⟩ := q_okd ho (Or.inl rfl)
  have bl := q_bxl ps
  have pl := q_psl ps
  rw [if_pos (show iN (3 : UInt8).toNat = 3 from rfl), q_cp (Or.inl rfl) hs o1 (by omega) (by omega), q_psb o1 (by omega), if_pos (show (3 : UInt8) = 3 from rfl)]
  by_cases c1 : 1 ≤ ps.length
  rotate_left
  · rw [if_pos (by simp (disch := omega) only [i_1, iN_a, iN_c, iN_le, iN_lt, iN_eq, iN_i]; omega), if_neg (by omega)]
    exact ⟨_, _, _, _, _, _, _, _, _, _, _, r, _, _, _, _, _, _, _, _, _, _, _, _, _, [], rfl, h, (fun q => absurd q (by decide)), (fun _ => rfl), by omega, hn, fun _ _ => rfl⟩
  rw [if_neg (by simp (disch := omega) only [i_1, iN_a, iN_c, iN_le, iN_lt, iN_eq, iN_i]; omega)]
  by_cases c4 : ps.length ≤ 4
  rotate_left
  · rw [if_neg (by simp (disch := omega) only [i_4, iN_a, iN_c, iN_le, iN_lt, iN_eq, iN_i]; omega), if_neg (by omega)]
    exact ⟨_, _, _, _, _, _, _, _, _, _, _, r, _, _, _, _, _, _, _, _, _, _, _, _, _, [], rfl, h, (fun q => absurd q (by decide)), (fun _ => rfl), by omega, hn, fun _ _ => rfl⟩
  rw [if_pos (by simp (disch := omega) only [i_4, iN_a, iN_c, iN_le, iN_lt, iN_eq, iN_i]; omega), if_pos (show 1 ≤ ps.length ∧ ps.length ≤ 4 from ⟨c1, c4⟩), show tw_ST_placeOf (iN (32 * p + (3 : UInt8).toNat)) = iN p from q_p (by omega) kk, show iN p + 4 = iN (p + 4) from iN_a p 4]
  have I := c_so_h (place := place) (limit := limit) (full := full) (ord := ord) hd hb h ps (p + 4) (((iN ps.length).toInt - (0 : Int32).toInt).toNat + 1) r [] pcnt pfix plc pbs pms pst pen pix plv psn k0 k1 k2 k3 sg (sb_bx hs).2.1 o1 (by omega) (by rw [iN_i (by omega)]; show _ < ((ps.length : Nat) - (0 : Int)).toNat + 1; omega) (by rw [List.length_nil]; omega) (by omega) hn (fun j κ q => by cases q)
  rw [List.length_nil, Nat.zero_add, List.nil_append] at I
  obtain ⟨C, t2, t3, t4, t5, t6, t7, t8, t9, t10, t11, r', t13, t14, t15, t16, t17, t18, t19, t20, t21, t22, t23, t24, t25, M, u1, u2, u3, u4, u5, u6, u7⟩ := I
  exact ⟨C, t2, t3, t4, t5, t6, t7, t8, t9, t10, t11, r', t13, t14, t15, t16, t17, t18, t19, t20, t21, t22, t23, t24, t25, M, u1, u2, u3, u4, by omega, u6, u7⟩
