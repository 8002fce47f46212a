/-! the pure part: the class's $lookup as a whole -/
def q_is (i : Nat) (x : q_P) : Bool := decide (x.1 = 2) && decide (x.2.1 = q_sn i)
def q_lkf (ps : List q_P) : Nat := match ps with | [x, y, z] => if (q_is 16 x && (q_is 17 y && q_is 18 z)) = true then (if q_pln (q_tt z.2.2) = true then (if (q_po (q_tt x.2.2)).isSome = true then (if (q_po (q_tt y.2.2)).isSome = true then 0 else 3) else 3) else 2) else 2 | _ => 2
def q_ft7 (k : UInt8) (v : List UInt8) : Nat := if k = 3 then q_lkf (q_ps v) else 2
def q_stp (x : q_P) : List (List UInt8) := (q_po (q_tt x.2.2)).getD []
def q_lks (v : List UInt8) (F B : List (List UInt8)) : List (List UInt8) := match q_ps v with | [x, y, z] => F.map (q_lkD (q_stp x) (q_stp y) (q_tt z.2.2) B) | _ => []
theorem c_ist {b : Nat → UInt8} {e i d : Nat} {x : q_P} (hi : i < 19) (h : sb b e (q_e1 x)) (ho : q_ok d x.1 x.2.2) (he : e + (q_e1 x).length ≤ 2000) : tw_FI_isText i b (iN e) (iN (32 * (e + x.2.1.length + 2) + x.1.toNat)) = q_is i x := by
  have e1 := q_e1l x
  have kx := (q_okn ho).1
  have s1 := sb_e1 h
  unfold tw_FI_isText q_is
  rw [show tw_ST_kindOf (iN (32 * (e + x.2.1.length + 2) + x.1.toNat)) = iN x.1.toNat from q_k (by omega) kx, show tw_ST_placeOf (iN (32 * (e + x.2.1.length + 2) + x.1.toNat)) = iN (e + x.2.1.length + 2) from q_p (by omega) kx, iN_s1 (by omega), show e + x.2.1.length + 2 - 1 = e + 1 + x.2.1.length by omega, show iN e + 1 = iN (e + 1) from iN_a e 1, c_nd hi s1.2.1 (by omega), q_b2]
  by_cases c : x.1 = 2
  · rw [if_pos (by rw [c]; rfl), decide_eq_true c, Bool.true_and]
    by_cases c2 : x.2.1 = q_sn i
    · rw [if_pos c2, decide_eq_true c2]
    · rw [if_neg c2, decide_eq_false c2]
  · rw [if_neg (fun z => c (by rw [show (2 : Int32) = iN 2 from rfl, iN_eq (by omega) (by omega), q_ko x.1 2 (by omega)] at z; exact z)), decide_eq_false c, Bool.false_and]
/-- a text's path is read -/
theorem c_rt {b : Nat → UInt8} {W : Nat} {t : List UInt8} {pcnt : Int32} {pfix : Bool} {pst pen pix : Nat → Int32} (h : sb b W (q_tx t)) (hW : W + (q_tx t).length ≤ 2000) :
    (∀ xs, q_po t = some xs → ∃ ps pe px, tw_PA_readText b pcnt pfix pst pen pix (iN (32 * W + 2)) = (true, iN xs.length, false, ps, pe, px) ∧ q_pa b ps pe px xs) ∧ (q_po t = none → (tw_PA_readText b pcnt pfix pst pen pix (iN (32 * W + 2))).1 = false) := by
  have tl : (q_tx t).length = t.length + 5 := q_txl t
  have ntx : q_ok 0 2 (q_tx t) := Or.inr (Or.inr (Or.inr (Or.inr ⟨rfl, t, rfl⟩)))
  have st : sb b (W + 4) t := by
    have s3 := sb_ap.1 h
    rw [q_l4l] at s3
    exact (sb_ap.1 s3.2).1
  have R := q_rd (pcnt := pcnt) (pfix := pfix) (pst := pst) (pen := pen) (pix := pix) st (by omega)
  have e : tw_PA_readText b pcnt pfix pst pen pix (iN (32 * W + 2)) = tw_PA_read b pcnt pfix pst pen pix (iN (W + 4)) (iN (W + 4 + t.length)) := by
    unfold tw_PA_readText
    rw [show tw_ST_endOf b (iN (32 * W + 2)) = iN (W + (q_tx t).length) from q_eo (k := 2) ntx h (by omega), show tw_ST_placeOf (iN (32 * W + 2)) = iN W from q_p (k := 2) (by omega) (by decide), show iN W + 4 = iN (W + 4) from iN_a W 4, iN_s1 (by omega), show W + (q_tx t).length - 1 = W + 4 + t.length by omega, q_tp6]
  rw [e]
  by_cases g : q_gp true t = true ∧ q_dc t < 8
  · have po : q_po t = some (q_sl [] t) := by
      unfold q_po
      rw [if_pos g]
    obtain ⟨ps, pe, px, r1, r2⟩ := R.1 g
    refine ⟨fun xs q => ?_, fun q => ?_⟩
    · rw [po] at q
      cases q
      exact ⟨ps, pe, px, r1, r2⟩
    · rw [po] at q
      cases q
  · have po : q_po t = none := by
      unfold q_po
      rw [if_neg g]
    refine ⟨fun xs q => ?_, fun _ => R.2 g⟩
    rw [po] at q
    cases q
theorem c_lk {b : Nat → UInt8} {fb kb nb p D r : Nat} {fcnt kcnt ncnt fict place limit pcnt plc pbs : Int32} {full pfix pms : Bool} {fsts ksts nsts pst pen pix plv psn fch fnx flv fhs fdo fow : Nat → Int32} {F B : List (List UInt8)} {k : UInt8} {v : List UInt8} (hdf : fb + 40000 ≤ nb ∨ nb + 40000 ≤ fb) (hdk : kb + 40000 ≤ nb ∨ nb + 40000 ≤ kb) (hbf : q_be b fb fcnt fsts F) (hbk : q_be b kb kcnt ksts B) (h : q_be b nb ncnt nsts []) (ho : q_ok D k v) (hs : sb b p v) (hp : p + v.length ≤ 2000) (hr : r + 800 < 2000000000) (hn : q_psn psn r) :
    ∃ fi pl l f b' c s pc pf plc' r' pbs' pms' pst' pen' pix' plv' psn' f2 f3 f4 f5 f6 fow' M, tw_FI_lookUp (iN fb) (iN kb) (iN nb) fcnt fsts kcnt ksts fict place limit full b ncnt nsts pcnt pfix plc (iN r) pbs pms pst pen pix plv psn fch fnx flv fhs fdo fow (iN (32 * p + k.toNat)) = (q_ans (q_ft7 k v) (q_run (some []) (q_lks v F B)), fi, pl, l, f, b', c, s, pc, pf, plc', iN r', pbs', pms', pst', pen', pix', plv', psn', f2, f3, f4, f5, f6, fow') ∧ q_be b' nb c s M ∧ (∀ R, q_run (some []) (q_lks v F B) = some R → q_ft7 k v = 0 → M = R) ∧ r' ≤ r + 800 ∧ q_psn psn' r' ∧ (∀ j, j < nb ∨ nb + 40000 ≤ j → b' j = b j) := by
  have kk := (q_okn ho).1
  have F1 := hbf.2.2.2.1.1
  have B1 := hbk.2.2.2.1.1
  unfold tw_FI_lookUp q_ft7 q_ans
  rw [show tw_ST_kindOf (iN (32 * p + k.toNat)) = iN k.toNat from q_k (by omega) kk]
  by_cases k3 : k = 3
  rotate_left
  · rw [if_neg (fun z => k3 (by rw [show (3 : Int32) = iN 3 from rfl, iN_eq (by omega) (by omega), q_ko k 3 (by omega)] at z; exact z)), if_neg k3, if_neg (show ¬ 2 = 0 by decide)]
    exact ⟨_, _, _, _, _, _, _, _, _, _, r, _, _, _, _, _, _, _, _, _, _, _, _, _, [], rfl, h, (fun R _ q => absurd q (by decide)), by omega, hn, fun _ _ => rfl⟩
  subst k3
  obtain ⟨e, ps, he, rfl, o1, o2⟩ := q_okd ho (Or.inl rfl)
  have bl := q_bxl ps
  have pl := q_psl ps
  have psb := q_psb o1 (show (q_bx ps).length < 4294967296 by omega)
  unfold q_lks
  rw [if_pos (show iN (3 : UInt8).toNat = 3 from rfl), q_cp (Or.inl rfl) hs o1 (by omega) (by omega), psb, if_pos (show (3 : UInt8) = 3 from rfl)]
  have bad : ∀ (Q : Nat) (T : Int32 × Int32 × Int32 × Int32 × Bool × (Nat → UInt8) × Int32 × (Nat → Int32) × Int32 × Bool × Int32 × Int32 × Int32 × Bool × (Nat → Int32) × (Nat → Int32) × (Nat → Int32) × (Nat → Int32) × (Nat → Int32) × (Nat → Int32) × (Nat → Int32) × (Nat → Int32) × (Nat → Int32) × (Nat → Int32) × (Nat → Int32)) (Z : Option (List (List UInt8))), Q = 2 ∨ Q = 3 → (∃ pc pf ps' pe px, T = (iN Q, fict, place, limit, full, b, ncnt, nsts, pc, pf, plc, iN r, pbs, pms, ps', pe, px, plv, psn, fch, fnx, flv, fhs, fdo, fow)) → ∃ fi pl l f b' c s pc pf plc' r' pbs' pms' pst' pen' pix' plv' psn' f2 f3 f4 f5 f6 fow' M, T = (if Q = 0 then q_05 Z else iN Q, fi, pl, l, f, b', c, s, pc, pf, plc', iN r', pbs', pms', pst', pen', pix', plv', psn', f2, f3, f4, f5, f6, fow') ∧ q_be b' nb c s M ∧ (∀ R, Z = some R → Q = 0 → M = R) ∧ r' ≤ r + 800 ∧ q_psn psn' r' ∧ (∀ j, j < nb ∨ nb + 40000 ≤ j → b' j = b j) := by
    intro Q T Z hQ hT
    obtain ⟨pc, pf, ps', pe, px, rfl⟩ := hT
    rw [if_neg (by omega)]
    exact ⟨_, _, _, _, _, _, _, _, _, _, r, _, _, _, _, _, _, _, _, _, _, _, _, _, [], rfl, h, (fun R _ q => absurd q (by omega)), by omega, hn, fun _ _ => rfl⟩
  by_cases c3 : ps.length = 3
  rotate_left
  · have f2 : q_lkf ps = 2 := by
      unfold q_lkf
      match ps, c3 with
      | [], _ => rfl
      | [_], _ => rfl
      | [_, _], _ => rfl
      | [_, _, _], q => exact absurd rfl q
      | _ :: _ :: _ :: _ :: _, _ => rfl
    rw [if_neg (by simp (disch := omega) only [i_3, iN_a, iN_c, iN_le, iN_lt, iN_eq, iN_i]; omega), f2]
    exact bad 2 _ _ (Or.inl rfl) ⟨_, _, _, _, _, rfl⟩
  match ps, c3 with
  | [x, y, z], _ =>
    rw [if_pos (show iN [x, y, z].length = 3 from rfl)]
    have l1 := q_e1l x
    have l2 := q_e1l y
    have l3 := q_e1l z
    have en : (q_en [x, y, z]).length = (q_e1 x).length + ((q_e1 y).length + (q_e1 z).length) := by
      rw [q_enc, q_enc, q_enc]
      simp [q_en]
    obtain ⟨hx1, hr1⟩ := sb_en (sb_bx hs).2.1
    obtain ⟨hy1, hr2⟩ := sb_en hr1
    obtain ⟨hz1, _⟩ := sb_en hr2
    obtain ⟨xm, xo⟩ := o1 x List.mem_cons_self
    obtain ⟨ym, yo⟩ := o1 y (List.mem_cons_of_mem _ List.mem_cons_self)
    obtain ⟨zm, zo⟩ := o1 z (List.mem_cons_of_mem _ (List.mem_cons_of_mem _ List.mem_cons_self))
    have kx := (q_okn xo).1
    have ky := (q_okn yo).1
    have kz := (q_okn zo).1
    have sx := (sb_e1 hx1).2.2.2
    have sy := (sb_e1 hy1).2.2.2
    have sz := (sb_e1 hz1).2.2.2
    rw [show tw_ST_placeOf (iN (32 * p + (3 : UInt8).toNat)) = iN p from q_p (k := 3) (by omega) (by decide), show iN p + 4 = iN (p + 4) from iN_a p 4, q_vo hx1 kx xm (by omega), q_eo xo sx (by omega), show p + 4 + x.2.1.length + 2 + x.2.2.length = p + 4 + (q_e1 x).length by omega, q_vo hy1 ky ym (by omega), q_eo yo sy (by omega), show p + 4 + (q_e1 x).length + y.2.1.length + 2 + y.2.2.length = p + 4 + (q_e1 x).length + (q_e1 y).length by omega, q_vo hz1 kz zm (by omega), c_ist (by omega) hx1 xo (by omega), c_ist (by omega) hy1 yo (by omega), c_ist (by omega) hz1 zo (by omega)]
    show ∃ fi pl l f b' c s pc pf plc' r' pbs' pms' pst' pen' pix' plv' psn' f2 f3 f4 f5 f6 fow' M, _ = (if q_lkf [x, y, z] = 0 then q_05 (q_run (some []) (F.map (q_lkD (q_stp x) (q_stp y) (q_tt z.2.2) B))) else iN (q_lkf [x, y, z]), fi, pl, l, f, b', c, s, pc, pf, plc', iN r', pbs', pms', pst', pen', pix', plv', psn', f2, f3, f4, f5, f6, fow') ∧ q_be b' nb c s M ∧ (∀ R, q_run (some []) (F.map (q_lkD (q_stp x) (q_stp y) (q_tt z.2.2) B)) = some R → q_lkf [x, y, z] = 0 → M = R) ∧ r' ≤ r + 800 ∧ q_psn psn' r' ∧ (∀ j, j < nb ∨ nb + 40000 ≤ j → b' j = b j)
    have lkf : q_lkf [x, y, z] = if (q_is 16 x && (q_is 17 y && q_is 18 z)) = true then (if q_pln (q_tt z.2.2) = true then (if (q_po (q_tt x.2.2)).isSome = true then (if (q_po (q_tt y.2.2)).isSome = true then 0 else 3) else 3) else 2) else 2 := rfl
    cases i1 : q_is 16 x with
    | false =>
      rw [if_pos (show b2i false = 0 from rfl), lkf, i1, Bool.false_and, if_neg (show ¬ false = true by decide)]
      exact bad 2 _ _ (Or.inl rfl) ⟨_, _, _, _, _, rfl⟩
    | true =>
      rw [if_neg (show ¬ b2i true = 0 by decide)]
      cases i2 : q_is 17 y with
      | false =>
        rw [if_pos (show b2i false = 0 from rfl), lkf, i1, i2, Bool.false_and, Bool.and_false, if_neg (show ¬ false = true by decide)]
        exact bad 2 _ _ (Or.inl rfl) ⟨_, _, _, _, _, rfl⟩
      | true =>
        rw [if_neg (show ¬ b2i true = 0 by decide)]
        cases i3 : q_is 18 z with
        | false =>
          rw [if_pos (show b2i false = 0 from rfl), lkf, i1, i2, i3, Bool.and_false, Bool.and_false, if_neg (show ¬ false = true by decide)]
          exact bad 2 _ _ (Or.inl rfl) ⟨_, _, _, _, _, rfl⟩
        | true =>
          have k2 : ∀ (i : Nat) (u : q_P), q_is i u = true → u.1 = 2 := by
            intro i u q
            unfold q_is at q
            rw [Bool.and_eq_true] at q
            exact of_decide_eq_true q.1
          have x2 := k2 16 x i1
          have y2 := k2 17 y i2
          have z2 := k2 18 z i3
          rw [x2] at xo
          rw [y2] at yo
          rw [z2] at zo
          obtain ⟨tx, ex⟩ := q_tx2 xo
          obtain ⟨ty, ey⟩ := q_tx2 yo
          obtain ⟨tz, ez⟩ := q_tx2 zo
          have ttx : q_tt x.2.2 = tx := by rw [ex, q_ttt]
          have tty : q_tt y.2.2 = ty := by rw [ey, q_ttt]
          have ttz : q_tt z.2.2 = tz := by rw [ez, q_ttt]
          have lx : x.2.2.length = tx.length + 5 := by rw [ex, q_txl]
          have ly : y.2.2.length = ty.length + 5 := by rw [ey, q_txl]
          have lz : z.2.2.length = tz.length + 5 := by rw [ez, q_txl]
          rw [ex] at sx
          rw [ey] at sy
          rw [ez] at sz
          have stz : sb b (p + 4 + (q_e1 x).length + (q_e1 y).length + z.2.1.length + 2 + 4) tz := by
            have s3 := sb_ap.1 sz
            rw [q_l4l] at s3
            exact (sb_ap.1 s3.2).1
          have ntz : q_ok 0 2 (q_tx tz) := Or.inr (Or.inr (Or.inr (Or.inr ⟨rfl, tz, rfl⟩)))
          have lkf' : q_lkf [x, y, z] = if q_pln tz = true then (if (q_po tx).isSome = true then (if (q_po ty).isSome = true then 0 else 3) else 3) else 2 := by
            rw [lkf, i1, i2, i3, ttx, tty, ttz]
            rfl
          rw [lkf', x2, y2, z2, show ((2 : UInt8).toNat) = 2 from rfl]
          unfold q_stp
          rw [ttx, tty, ttz, if_neg (show ¬ b2i true = 0 by decide), show tw_ST_placeOf (iN (32 * (p + 4 + (q_e1 x).length + (q_e1 y).length + z.2.1.length + 2) + 2)) = iN (p + 4 + (q_e1 x).length + (q_e1 y).length + z.2.1.length + 2) from q_p (k := 2) (by omega) (by decide), show tw_ST_endOf b (iN (32 * (p + 4 + (q_e1 x).length + (q_e1 y).length + z.2.1.length + 2) + 2)) = iN (p + 4 + (q_e1 x).length + (q_e1 y).length + z.2.1.length + 2 + (q_tx tz).length) from q_eo (k := 2) ntz sz (by rw [q_txl]; omega), q_txl, show iN (p + 4 + (q_e1 x).length + (q_e1 y).length + z.2.1.length + 2) + 4 = iN (p + 4 + (q_e1 x).length + (q_e1 y).length + z.2.1.length + 2 + 4) from iN_a _ 4, iN_s1 (by omega), show p + 4 + (q_e1 x).length + (q_e1 y).length + z.2.1.length + 2 + (tz.length + 5) - 1 = p + 4 + (q_e1 x).length + (q_e1 y).length + z.2.1.length + 2 + 4 + tz.length by omega, c_pl stz (by omega)]
          cases pz : q_pln tz with
          | false =>
            rw [if_pos (show b2i false = 0 from rfl), if_neg (show ¬ false = true by decide)]
            exact bad 2 _ _ (Or.inl rfl) ⟨_, _, _, _, _, rfl⟩
          | true =>
            rw [if_neg (show ¬ b2i true = 0 by decide), if_pos (show true = true from rfl), q_tp6]
            obtain ⟨rx1, rx2⟩ := c_rt (pcnt := pcnt) (pfix := pfix) (pst := pst) (pen := pen) (pix := pix) sx (by rw [q_txl]; omega)
            cases px : q_po tx with
            | none =>
              rw [rx2 px, if_pos (show b2i false = 0 from rfl), if_neg (show ¬ (none : Option (List (List UInt8))).isSome = true by decide)]
              exact bad 3 _ _ (Or.inr rfl) ⟨_, _, _, _, _, rfl⟩
            | some xs =>
              obtain ⟨_, xs0, xs8, xsg⟩ := q_pok px
              obtain ⟨pa1, pa2, pa3, q1, q2⟩ := rx1 xs px
              rw [q1, if_pos (show (some xs).isSome = true from rfl)]
              try dsimp only
              rw [if_neg (show ¬ b2i true = 0 by decide), q_tp6]
              obtain ⟨ry1, ry2⟩ := c_rt (pcnt := iN xs.length) (pfix := false) (pst := pa1) (pen := pa2) (pix := pa3) sy (by rw [q_txl]; omega)
              cases py : q_po ty with
              | none =>
                rw [ry2 py, if_pos (show b2i false = 0 from rfl), if_neg (show ¬ (none : Option (List (List UInt8))).isSome = true by decide)]
                exact bad 3 _ _ (Or.inr rfl) ⟨_, _, _, _, _, rfl⟩
              | some ys =>
                obtain ⟨_, ys0, ys8, ysg⟩ := q_pok py
                obtain ⟨pb1, pb2, pb3, w1, w2⟩ := ry1 ys py
                rw [w1, if_pos (show (some ys).isSome = true from rfl), if_pos (show 0 = 0 from rfl)]
                try dsimp only
                rw [if_neg (show ¬ b2i true = 0 by decide)]
                obtain ⟨f1, plc1, r1, pbs1, pms1, plv1, psn1, f2, f3, f4, f5, f6, fow1, EE, g1, g2, g3, g4, g5, g6, g7⟩ := c_gt (fict := fict) (plc := plc) (pbs := pbs) (pms := pms) (plv := plv) (fch := fch) (fnx := fnx) (flv := flv) (fhs := fhs) (fdo := fdo) (fow := fow) hbk ysg ys0 ys8 w2 (by omega) hn
                rw [g1, q_tp13, q_tp6]
                obtain ⟨rz1, _⟩ := c_rt (pcnt := iN ys.length) (pfix := false) (pst := pb1) (pen := pb2) (pix := pb3) sx (by rw [q_txl]; omega)
                obtain ⟨pc1, pc2, pc3, v1, v2⟩ := rz1 xs px
                rw [v1]
                try dsimp only
                rw [if_neg (show ¬ b2i true = 0 by decide)]
                unfold tw_FI_matchAll
                obtain ⟨a1, a2, a3, b', c, s, a7, r', a9, a10, a11, psn', fow', M, t1, t2, t3, t4, t5, t6⟩ := c_ma_h (fict := f1) (fch := f2) (fnx := f3) (flv := f4) (fhs := f5) (fdo := f6) hdf hdk g4 g6 xsg xs0 xs8 ysg ys0 pz (show p + 4 + (q_e1 x).length + (q_e1 y).length + z.2.1.length + 2 + (q_tx tz).length ≤ 2000 by rw [q_txl]; omega) F.length 0 ((((fcnt.toInt - (0 : Int32).toInt).toNat)) + 1) r1 place limit full b ncnt nsts plc1 pbs1 pms1 plv1 psn1 fow1 [] (by omega) (by rw [hbf.1, iN_i (by omega)]; show _ < ((F.length : Nat) - (0 : Int)).toNat + 1; omega) (by omega) g3 v2 sz hbf hbk h g5 (fun d hd => Or.inl (g7 d hd))
                rw [List.drop_zero, show iN 0 = (0 : Int32) from rfl] at t1
                rw [List.drop_zero] at t3
                rw [t1, q_tp14, show (some xs).getD [] = xs from rfl, show (some ys).getD [] = ys from rfl]
                unfold q_05
                cases hq : q_run (some []) (F.map (q_lkD xs ys tz B)) with
                | none =>
                  rw [if_pos (show b2i (none : Option (List (List UInt8))).isSome = 0 from rfl), if_neg (show ¬ (none : Option (List (List UInt8))).isSome = true by decide)]
                  exact ⟨_, _, _, _, b', _, _, _, _, _, r', _, _, _, _, _, _, _, _, _, _, _, _, _, M, rfl, t2, (fun R q => by cases q), by omega, t5, t6⟩
                | some R1 =>
                  rw [if_neg (show ¬ b2i (some R1).isSome = 0 from (by decide : ¬ b2i true = 0)), if_pos (show (some R1).isSome = true from rfl)]
                  exact ⟨_, _, _, _, b', _, _, _, _, _, r', _, _, _, _, _, _, _, _, _, _, _, _, _, M, rfl, t2, (fun R q _ => t3 R (by rw [hq]; exact q)), by omega, t5, t6⟩
