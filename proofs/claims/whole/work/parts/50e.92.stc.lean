/-! the pure part: the class's stage -/
theorem q_an3e (ft : Nat) (hold : Bool) (N : Option (List (List UInt8))) : q_an3 ft hold N = q_ans (if ft = 0 then (if hold = true then 0 else 4) else ft) N := by
  unfold q_an3 q_ans
  by_cases c : ft = 0
  · rw [if_pos c, if_pos c]
    cases hold
    · rfl
    · rfl
  · rw [if_neg c, if_neg c, if_neg c]
theorem q_wn8 (nm : List UInt8) : q_wn nm < 8 := by
  unfold q_wn
  repeat' split
  all_goals omega
theorem c_stg {fb kb nb r : Nat} {fcnt kcnt : Int32} {fsts ksts : Nat → Int32} {onT : Int32} {place : Int32} {limit : Int32} {full : Bool} {b : Nat → UInt8} {ncnt : Int32} {nsts : Nat → Int32} {pcnt : Int32} {pfix : Bool} {pown : Int32} {plc : Int32} {pbs : Int32} {pms : Bool} {vplace : Int32} {vlimit : Int32} {vfull : Bool} {pst : Nat → Int32} {pen : Nat → Int32} {pix : Nat → Int32} {pho : Nat → Int32} {plv : Nat → Int32} {psn : Nat → Int32} {ngr : Int32} {held : Int32} {gsum : Int64} {gky : Nat → Int32} {ghs : Nat → Int32} {gfi : Nat → Int32} {gla : Nat → Int32} {gnx : Nat → Int32} {gvl : Nat → Int32} {sorts : Int32} {k0 : Nat → Int32} {k1 : Nat → Int32} {k2 : Nat → Int32} {k3 : Nat → Int32} {sg : Nat → Int32} {ord : Nat → Int32} {fict : Int32} {fch : Nat → Int32} {fnx : Nat → Int32} {flv : Nat → Int32} {fhs : Nat → Int32} {fdo : Nat → Int32} {fow : Nat → Int32} {F K : List (List UInt8)} {T : List UInt8} (h : q_cz b fb kb nb fcnt fsts kcnt ksts nsts onT psn r F K T) (hr : r + 800 < 2000000000) (n : Int32) :
    q_SP fb kb nb fcnt fsts kcnt ksts r K (q_aG F K T n) (tw_PB_stage (iN fb) (iN kb) (iN nb) fcnt fsts kcnt ksts onT place limit full b ncnt nsts pcnt pfix pown plc (iN r) pbs pms vplace vlimit vfull pst pen pix pho plv psn ngr held gsum gky ghs gfi gla gnx gvl sorts k0 k1 k2 k3 sg ord fict fch fnx flv fhs fdo fow n) := by
  obtain ⟨h, hz, hn⟩ := h
  have hh := h
  obtain ⟨h1, h2, h3, h4, h5, h6, h7, h8, h9, h10⟩ := hh
  unfold tw_PB_stage q_aG
  by_cases c0 : n < 0
  · rw [if_pos c0, if_pos c0]
    exact ⟨_, _, _, _, _, _, _, _, _, _, _, _, _, _, _, _, _, _, _, _, _, _, _, _, _, _, _, _, _, _, _, _, _, _, _, _, _, _, _, _, _, _, _, _, _, false, r, rfl, by omega, (fun _ => ⟨h, hz, hn⟩), fun q => by cases q⟩
  rw [if_neg c0, if_neg c0]
  obtain ⟨e, l⟩ := q_nn c0
  generalize n.toNatClampNeg = m at e l
  subst e
  by_cases c1 : m ≤ T.length
  rotate_left
  · rw [if_neg (show ¬ iN m ≤ onT by rw [h4, iN_le l (by omega)]; exact c1), if_neg c1]
    exact ⟨_, _, _, _, _, _, _, _, _, _, _, _, _, _, _, _, _, _, _, _, _, _, _, _, _, _, _, _, _, _, _, _, _, _, _, _, _, _, _, _, _, _, _, _, _, false, r, rfl, by omega, (fun _ => ⟨h, hz, hn⟩), fun q => by cases q⟩
  rw [if_pos (show iN m ≤ onT by rw [h4, iN_le l (by omega)]; exact c1), if_pos c1]
  have hw := sb_tk (n := m) h3
  have wl : (T.take m).length = m := by
    rw [List.length_take]
    omega
  generalize T.take m = w at hw wl
  subst wl
  rw [c_isd hw (by omega)]
  cases k : q_kb 16 false w
  · rw [if_pos (show b2i false = 0 from rfl), if_neg (show ¬ false = true by decide)]
    exact ⟨_, _, _, _, _, _, _, _, _, _, _, _, _, _, _, _, _, _, _, _, _, _, _, _, _, _, _, _, _, _, _, _, _, _, _, _, _, _, _, _, _, _, _, _, _, false, r, rfl, by omega, (fun _ => ⟨⟨h1, h2, trivial, rfl, Nat.zero_le _, h6, h7, h8, h9, h10⟩, hz, hn⟩), fun q => by cases q⟩
  rw [if_neg (show ¬ b2i true = 0 by decide), if_pos (show true = true from rfl)]
  have ok := q_kbok 16 false w k
  obtain ⟨d, ps, de, we, ho, hnk⟩ := q_okd ok (Or.inl rfl)
  have d15 : d = 15 := by omega
  subst d15 we
  rw [q_psb ho (by omega), q_tp1]
  have be : q_be b nb 0 nsts [] := ⟨rfl, (fun i hi => by have i0 : i = 0 := Nat.le_zero.1 hi; rw [i0, q_pf0, Nat.add_zero]; exact hz.1), trivial, ⟨Nat.zero_le _, Nat.zero_le _, (fun d hd => by cases hd)⟩, h7, h6, hz.2⟩
  have be : q_be b nb (tw_BS_beginAnew (iN nb) ncnt) nsts [] := be
  generalize tw_BS_beginAnew (iN nb) ncnt = ncnt at be
  have pl2 : (q_bx ps).length ≤ 2000 := by omega
  clear c0 k ok hnk l c1
  match ps, hw, ho, pl2 with
  | [], hw, ho, pl2 =>
    rw [show tw_PB_stageOnTape b = iN 0 from c_sg hw ho pl2]
    rw [if_neg (show ¬ iN 0 = 1 by decide), if_neg (show ¬ iN 0 = 2 by decide), if_neg (show ¬ iN 0 = 3 by decide), if_neg (show ¬ iN 0 = 4 by decide), if_neg (show ¬ iN 0 = 5 by decide), if_neg (show ¬ iN 0 = 6 by decide), if_neg (show ¬ iN 0 = 7 by decide)]
    exact c_jP (fl := 1) (N := none) (by omega) h rfl be (fun R q => by cases q) (fun _ _ _ => rfl) (by omega) hn
  | x :: y :: z, hw, ho, pl2 =>
    rw [show tw_PB_stageOnTape b = iN 0 from c_sg hw ho pl2]
    rw [if_neg (show ¬ iN 0 = 1 by decide), if_neg (show ¬ iN 0 = 2 by decide), if_neg (show ¬ iN 0 = 3 by decide), if_neg (show ¬ iN 0 = 4 by decide), if_neg (show ¬ iN 0 = 5 by decide), if_neg (show ¬ iN 0 = 6 by decide), if_neg (show ¬ iN 0 = 7 by decide)]
    exact c_jP (fl := 1) (N := none) (by omega) h rfl be (fun R q => by cases q) (fun _ _ _ => rfl) (by omega) hn
  | [x], hw, ho, pl2 =>
    have e0 : tw_PB_stageOnTape b = iN (q_wn x.2.1) := c_sg hw ho pl2
    show q_SP fb kb nb fcnt fsts kcnt ksts r K (q_sg3 (q_flt x F) (q_run (some []) (q_ndo x F K)) F) _
    obtain ⟨xm, xo⟩ := ho x List.mem_cons_self
    have xk := (q_okn xo).1
    have bl := q_bxl [x]
    have el : (q_en [x]).length = (q_e1 x).length := by
      rw [q_enc]
      simp [q_en]
    have e1l := q_e1l x
    have h1x : sb b 4 (q_e1 x) := (sb_en (sb_bx hw).2.1).1
    have hv : sb b (4 + x.2.1.length + 2) x.2.2 := (sb_e1 h1x).2.2.2
    have vo : tw_ST_valueOf b 4 = iN (32 * (4 + x.2.1.length + 2) + x.1.toNat) := q_vo (p := 4) h1x xk xm (by omega)
    rw [e0, vo]
    have w8 := q_wn8 x.2.1
    have fl4 := q_fltl x F
    have hp : 4 + x.2.1.length + 2 + x.2.2.length ≤ 2000 := by omega
    generalize ew : q_wn x.2.1 = w at w8
    rcases (show w = 0 ∨ w = 1 ∨ w = 2 ∨ w = 3 ∨ w = 4 ∨ w = 5 ∨ w = 6 ∨ w = 7 by omega) with rfl | rfl | rfl | rfl | rfl | rfl | rfl | rfl
    · have fe : q_flt x F = 1 := by unfold q_flt; simp only [ew]
      rw [if_neg (show ¬ iN 0 = 1 by decide), if_neg (show ¬ iN 0 = 2 by decide), if_neg (show ¬ iN 0 = 3 by decide), if_neg (show ¬ iN 0 = 4 by decide), if_neg (show ¬ iN 0 = 5 by decide), if_neg (show ¬ iN 0 = 6 by decide), if_neg (show ¬ iN 0 = 7 by decide)]
      exact c_jP fl4 h (by rw [fe]; rfl) be (fun R _ q => by omega) (fun _ _ _ => rfl) (by omega) hn
    · have fe : q_flt x F = q_ft1 x.1 x.2.2 := by unfold q_flt; simp only [ew]
      have ne : q_ndo x F K = F.map (q_pjD (q_ps x.2.2)) := by unfold q_ndo; simp only [ew]
      rw [if_pos (show iN 1 = 1 from rfl)]
      obtain ⟨pl, li, f, b', c, s, pc, pf, po, vp, vl, vf, ps', pe, px, M, u1, u2, u3, u4⟩ := c_pj (place := place) (limit := limit) (full := full) (pcnt := pcnt) (pfix := pfix) (pown := pown) (vplace := vplace) (vlimit := vlimit) (vfull := vfull) (pst := pst) (pen := pen) (pix := pix) h9 h1 be xo (by omega) hv hp
      rw [u1]
      exact c_jP fl4 h (by rw [fe, ne]) u2 (by rw [fe, ne]; exact u3) (fun j q1 q2 => u4 j (by omega) q2) (by omega) hn
    · have fe : q_flt x F = q_ft2 x.1 x.2.2 := by unfold q_flt; simp only [ew]
      have ne : q_ndo x F K = F.flatMap (q_uw (q_xs x.2.2)) := by unfold q_ndo; simp only [ew]
      rw [if_neg (show ¬ iN 2 = 1 by decide), if_pos (show iN 2 = 2 from rfl)]
      obtain ⟨pl, li, f, b', c, s, pc, pf, ps', pe, px, ph, M, u1, u2, u3, u4⟩ := c_uw (place := place) (limit := limit) (full := full) (pcnt := pcnt) (pfix := pfix) (pst := pst) (pen := pen) (pix := pix) (pho := pho) h9 h1 be xo hv hp
      rw [u1]
      exact c_jP fl4 h (by rw [fe, ne]) u2 (by rw [fe, ne]; exact u3) (fun j q1 q2 => u4 j q2) (by omega) hn
    · have fe : q_flt x F = if q_ft3 x.1 x.2.2 = 0 then (if q_hld (q_gk (q_x0 x.2.2) F) F (q_ps x.2.2).tail = true then 0 else 4) else q_ft3 x.1 x.2.2 := by unfold q_flt; simp only [ew]
      have ne : q_ndo x F K = q_gds (q_x0 x.2.2) (q_ps x.2.2).tail F := by unfold q_ndo; simp only [ew]
      rw [if_neg (show ¬ iN 3 = 1 by decide), if_neg (show ¬ iN 3 = 2 by decide), if_pos (show iN 3 = 3 from rfl)]
      obtain ⟨ng, h', s', pl, li, f, b', c, s, pc, pf, po, vp, vl, vf, ps', pe, px, ky, hs', fi, la, nx, gv, M, u1, u2, u3, u4⟩ := c_gr (ngr := ngr) (held := held) (gsum := gsum) (place := place) (limit := limit) (full := full) (pcnt := pcnt) (pfix := pfix) (pown := pown) (vplace := vplace) (vlimit := vlimit) (vfull := vfull) (pst := pst) (pen := pen) (pix := pix) (gky := gky) (ghs := ghs) (gfi := gfi) (gla := gla) (gnx := gnx) (gvl := gvl) h9 h1 be xo (by omega) hv hp
      rw [u1]
      refine c_jP fl4 h (by rw [fe, ne]; exact q_an3e _ _ _) u2 ?_ (fun j q1 q2 => u4 j q1 q2) (by omega) hn
      rw [ne]
      intro R q f0
      have f1 : q_ft3 x.1 x.2.2 = 0 := by
        by_cases z : q_ft3 x.1 x.2.2 = 0
        · exact z
        · rw [fe, if_neg z] at f0
          exact f0
      refine u3 R q f1 ?_
      rw [fe, if_pos f1] at f0
      by_cases z : q_hld (q_gk (q_x0 x.2.2) F) F (q_ps x.2.2).tail = true
      · exact z
      · rw [if_neg z] at f0
        omega
    · have fe : q_flt x F = q_ft4 x.1 x.2.2 := by unfold q_flt; simp only [ew]
      have ne : q_ndo x F K = (q_sto F ((q_ps x.2.2).map q_key)).map (fun y => F.getD y []) := by unfold q_ndo; simp only [ew]
      rw [if_neg (show ¬ iN 4 = 1 by decide), if_neg (show ¬ iN 4 = 2 by decide), if_neg (show ¬ iN 4 = 3 by decide), if_pos (show iN 4 = 4 from rfl)]
      obtain ⟨C, st', pl, li, f, b', c, s, pc, pf, plc', r', pbs', pms', pst', pen', pix', plv', psn', k0', k1', k2', k3', sg', ord', M, u1, u2, u3, u4, u5, u6, u7⟩ := c_so (sorts := sorts) (place := place) (limit := limit) (full := full) (pcnt := pcnt) (pfix := pfix) (plc := plc) (pbs := pbs) (pms := pms) (pst := pst) (pen := pen) (pix := pix) (plv := plv) (psn := psn) (k0 := k0) (k1 := k1) (k2 := k2) (k3 := k3) (sg := sg) (ord := ord) h9 h1 be xo hv hp hr hn
      rw [u1]
      by_cases f0 : q_ft4 x.1 x.2.2 = 0
      · obtain ⟨σ, v1, v2, v3⟩ := u3 f0
        rw [q_stoe v1] at ne
        refine c_jP fl4 h ?_ u2 (by rw [ne]; exact fun R q _ => v3 R q) (fun j q1 q2 => u7 j q2) u5 u6
        rw [fe, ne, v2, f0]
        rfl
      · refine c_jP fl4 h ?_ u2 (fun R _ q => absurd (fe.symm.trans q) f0) (fun j q1 q2 => u7 j q2) u5 u6
        rw [u4 f0, fe]
        unfold q_ans
        rw [if_neg f0]
    · have fe : q_flt x F = if (q_lo x.1 x.2.2).isSome = true then 0 else 2 := by unfold q_flt; simp only [ew]
      have ne : q_ndo x F K = q_sk true ((q_lo x.1 x.2.2).getD 0) F := by unfold q_ndo; simp only [ew]
      rw [if_neg (show ¬ iN 5 = 1 by decide), if_neg (show ¬ iN 5 = 2 by decide), if_neg (show ¬ iN 5 = 3 by decide), if_neg (show ¬ iN 5 = 4 by decide), if_pos (show iN 5 = 5 from rfl)]
      obtain ⟨pl, li, f, b', c, s, M, u1, u2, u3, u4⟩ := c_lo (place := place) (limit := limit) (full := full) (skip := true) h9 h1 be xo hv hp
      rw [show b2i true = (1 : Int32) from rfl] at u1
      rw [u1]
      cases lo : q_lo x.1 x.2.2 with
      | none =>
        rw [lo] at fe
        exact c_jP fl4 h (by rw [fe]; rfl) u2 (fun R _ q => by rw [fe] at q; cases q) (fun j q1 q2 => u4 j q2) (by omega) hn
      | some m =>
        rw [lo] at fe ne
        exact c_jP fl4 h (by rw [fe, ne]; rfl) u2 (by rw [ne]; exact fun R q _ => u3 m R lo q) (fun j q1 q2 => u4 j q2) (by omega) hn
    · have fe : q_flt x F = if (q_lo x.1 x.2.2).isSome = true then 0 else 2 := by unfold q_flt; simp only [ew]
      have ne : q_ndo x F K = q_sk false ((q_lo x.1 x.2.2).getD 0) F := by unfold q_ndo; simp only [ew]
      rw [if_neg (show ¬ iN 6 = 1 by decide), if_neg (show ¬ iN 6 = 2 by decide), if_neg (show ¬ iN 6 = 3 by decide), if_neg (show ¬ iN 6 = 4 by decide), if_neg (show ¬ iN 6 = 5 by decide), if_pos (show iN 6 = 6 from rfl)]
      obtain ⟨pl, li, f, b', c, s, M, u1, u2, u3, u4⟩ := c_lo (place := place) (limit := limit) (full := full) (skip := false) h9 h1 be xo hv hp
      rw [show b2i false = (0 : Int32) from rfl] at u1
      rw [u1]
      cases lo : q_lo x.1 x.2.2 with
      | none =>
        rw [lo] at fe
        exact c_jP fl4 h (by rw [fe]; rfl) u2 (fun R _ q => by rw [fe] at q; cases q) (fun j q1 q2 => u4 j q2) (by omega) hn
      | some m =>
        rw [lo] at fe ne
        exact c_jP fl4 h (by rw [fe, ne]; rfl) u2 (by rw [ne]; exact fun R q _ => u3 m R lo q) (fun j q1 q2 => u4 j q2) (by omega) hn
    · have fe : q_flt x F = q_ft7 x.1 x.2.2 := by unfold q_flt; simp only [ew]
      have ne : q_ndo x F K = q_lks x.2.2 F K := by unfold q_ndo; simp only [ew]
      rw [if_neg (show ¬ iN 7 = 1 by decide), if_neg (show ¬ iN 7 = 2 by decide), if_neg (show ¬ iN 7 = 3 by decide), if_neg (show ¬ iN 7 = 4 by decide), if_neg (show ¬ iN 7 = 5 by decide), if_neg (show ¬ iN 7 = 6 by decide), if_pos (show iN 7 = 7 from rfl)]
      obtain ⟨fi, pl, li, f, b', c, s, pc, pf, plc', r', pbs', pms', pst', pen', pix', plv', psn', f2, f3, f4, f5, f6, fow', M, u1, u2, u3, u5, u6, u7⟩ := c_lk (fict := fict) (place := place) (limit := limit) (full := full) (pcnt := pcnt) (pfix := pfix) (plc := plc) (pbs := pbs) (pms := pms) (pst := pst) (pen := pen) (pix := pix) (plv := plv) (psn := psn) (fch := fch) (fnx := fnx) (flv := flv) (fhs := fhs) (fdo := fdo) (fow := fow) h9 (by omega) h1 h2 be xo hv hp hr hn
      rw [u1]
      exact c_jP fl4 h (by rw [fe, ne]) u2 (by rw [fe, ne]; exact u3) (fun j q1 q2 => u7 j q2) u5 u6
