/-! the pure part: the class's $group as a whole -/
def q_an3 (ft : Nat) (hold : Bool) (N : Option (List (List UInt8))) : Int32 := if ft = 0 then (if hold = true then q_05 N else 4) else iN ft
def q_x0 (v : List UInt8) : q_P := (q_ps v).headD (0, [], [])
theorem c_sh {b : Nat → UInt8} {fb p T d : Nat} {fcnt ngr held : Int32} {gsum : Int64} {fsts gky ghs gfi gla gnx : Nat → Int32} {F : List (List UInt8)} {K : Nat → q_V} {x0 : q_P} {ps : List q_P} {pcnt pown vplace vlimit : Int32} {pfix vfull : Bool} {pst pen pix gvl : Nat → Int32} (hT : T ≤ 162000) (hd16 : d ≤ 16) (hs : sb b p (q_bx (x0 :: ps))) (hp : p + (q_bx (x0 :: ps)).length ≤ 2000) (ho : q_op d (x0 :: ps)) (hok : q_ok (d + 1) 3 (q_bx (x0 :: ps))) (hgf : q_gff ps = 0) (hb : q_be b fb fcnt fsts F) (hG : q_GI fb T b K F.length ngr gky ghs gfi gla gnx) :
    ∃ h' s' b' pc pf po vp vl vf ps' pe px gv, (∀ j, j < 162000 → b' j = b j) ∧ tw_GR_sumsHold (iN fb) ngr fcnt fsts gfi gnx held gsum b pcnt pfix pown vplace vlimit vfull pst pen pix gvl (iN (32 * p + 3)) = (q_hld K F ps, h', s', b', pc, pf, po, vp, vl, vf, ps', pe, px, gv) := by
  have bl := q_bxl (x0 :: ps)
  have pl := q_psl (x0 :: ps)
  have e1 := q_e1l x0
  have e2 := q_enl x0 ps
  rw [List.length_cons] at pl
  obtain ⟨h1, h2⟩ := sb_en (sb_bx hs).2.1
  obtain ⟨hx, hxo⟩ := ho x0 List.mem_cons_self
  have kx := (q_okn hxo).1
  have s1 := sb_e1 h1
  unfold tw_GR_sumsHold
  rw [show tw_ST_endOf b (iN (32 * p + 3)) = iN (p + (q_bx (x0 :: ps)).length) from q_eo hok hs (by omega), show tw_ST_placeOf (iN (32 * p + 3)) = iN p from q_p (k := 3) (by omega) (by decide), iN_s1 (by omega), show iN p + 4 = iN (p + 4) from iN_a p 4]
  generalize hn : ((1000 : Int32).toInt - (0 : Int32).toInt).toNat + 1 = n
  have hn' : n = 1001 := by rw [← hn]; decide
  obtain ⟨n, rfl⟩ : ∃ m, n = m + 1 := ⟨n - 1, by omega⟩
  unfold tw_GR_sumsHold_h21
  rw [if_neg (show ¬ (1000 : Int32) ≤ 0 by decide), if_neg (by simp (disch := omega) only [iN_a, iN_c, iN_le, iN_lt, iN_eq, iN_i]; omega), if_pos (show (0 : Int32) ≤ 0 by decide), c_69z (by omega), q_vo h1 kx hx (by omega), q_eo hxo s1.2.2.2 (by omega), show (0 : Int32) + 1 = iN 1 from rfl, show p + 4 + x0.2.1.length + 2 + x0.2.2.length = p + 4 + (q_e1 x0).length by omega]
  exact c_sh2 hT hd16 (by omega) ps (p + 4 + (q_e1 x0).length) n 1 held gsum b pcnt pfix pown vplace vlimit vfull pst pen pix gvl h2 (fun u hu => ho u (List.mem_cons_of_mem _ hu)) hgf (by omega) (by omega) (by omega) (by omega) hb hG
theorem c_gr {b : Nat → UInt8} {fb nb p D : Nat} {fcnt ncnt ngr held place limit : Int32} {gsum : Int64} {full : Bool} {fsts nsts : Nat → Int32} {F : List (List UInt8)} {k : UInt8} {v : List UInt8} {pcnt pown vplace vlimit : Int32} {pfix vfull : Bool} {pst pen pix gky ghs gfi gla gnx gvl : Nat → Int32} (hd : fb + 40000 ≤ nb ∨ nb + 40000 ≤ fb) (hb : q_be b fb fcnt fsts F) (h : q_be b nb ncnt nsts []) (ho : q_ok D k v) (hD : D ≤ 16) (hs : sb b p v) (hp : p + v.length ≤ 2000) :
    ∃ ng h' s' pl l f b' c s pc pf po vp vl vf ps' pe px ky hs' fi la nx gv M, tw_GR_group (iN fb) (iN nb) fcnt fsts ngr held gsum place limit full b ncnt nsts pcnt pfix pown vplace vlimit vfull pst pen pix gky ghs gfi gla gnx gvl (iN (32 * p + k.toNat)) = (q_an3 (q_ft3 k v) (q_hld (q_gk (q_x0 v) F) F (q_ps v).tail) (q_run (some []) (q_gds (q_x0 v) (q_ps v).tail F)), ng, h', s', pl, l, f, b', c, s, pc, pf, po, vp, vl, vf, ps', pe, px, ky, hs', fi, la, nx, gv) ∧ q_be b' nb c s M ∧ (∀ R, q_run (some []) (q_gds (q_x0 v) (q_ps v).tail F) = some R → q_ft3 k v = 0 → q_hld (q_gk (q_x0 v) F) F (q_ps v).tail = true → M = R) ∧ (∀ j, j < 122000 → j < nb ∨ nb + 40000 ≤ j → b' j = b j) := by
  have F1 := hb.2.2.2.1.1
  have F2 := hb.2.2.2.1.2.1
  have F5 := hb.2.2.2.2.1
  have N2 := h.2.2.2.1.2.1
  have N5 := h.2.2.2.2.1
  have N6 := h.2.2.2.2.2
  have F6 := hb.2.2.2.2.2
  obtain ⟨pc, pf, po, ps', pe, px, e1⟩ := c_gfo (pcnt := pcnt) (pown := pown) (pfix := pfix) (pst := pst) (pen := pen) (pix := pix) ho hs hp
  unfold tw_GR_group q_an3
  rw [e1, q_tp7]
  try dsimp only
  by_cases c : q_ft3 k v = 0
  rotate_left
  · have lt : q_ft3 k v < 4 := by
      have gl : ∀ ps, q_gff ps < 4 := by
        intro ps
        induction ps with
        | nil => decide
        | cons y r ih =>
          rw [q_gffc]
          split
          · exact ih
          · unfold q_gpf q_xf
            repeat' split
            all_goals decide
      unfold q_ft3 q_gfo
      repeat' split
      all_goals first | exact gl _ | decide
    rw [if_neg c, if_neg (by simp (disch := omega) only [i_0, iN_a, iN_c, iN_le, iN_lt, iN_eq, iN_i]; omega)]
    exact ⟨_, _, _, _, _, _, _, _, _, _, _, _, _, _, _, _, _, _, _, _, _, _, _, _, [], rfl, h, (fun R _ q => absurd q c), fun _ _ _ => rfl⟩
  rw [c, if_pos (show 0 = 0 from rfl), if_pos (show iN 0 = 0 from rfl)]
  have k3 : k = 3 := by
    unfold q_ft3 at c
    by_cases q : k = 3
    · exact q
    · rw [if_neg q] at c
      cases c
  subst k3
  obtain ⟨e, qs, he, rfl, o1, o2⟩ := q_okd ho (Or.inl rfl)
  have psb := q_psb o1 (show (q_bx qs).length < 4294967296 by omega)
  rw [q_ft3, if_pos (show (3 : UInt8) = 3 from rfl), psb] at c
  unfold q_x0
  rw [psb]
  cases qs with
  | nil => cases c
  | cons x0 ps =>
    have c : (if x0.2.1 = q_sn 7 then (if q_xf x0.1 x0.2.2 = 0 then q_gff ps else 3) else 2) = 0 := c
    by_cases nm : x0.2.1 = q_sn 7
    rotate_left
    · rw [if_neg nm] at c
      cases c
    rw [if_pos nm] at c
    by_cases xf : q_xf x0.1 x0.2.2 = 0
    rotate_left
    · rw [if_neg xf] at c
      cases c
    rw [if_pos xf] at c
    rw [show (x0 :: ps).headD (0, [], []) = x0 from rfl, List.tail_cons]
    have bl := q_bxl (x0 :: ps)
    have l1 := q_e1l x0
    have l2 := q_enl x0 ps
    obtain ⟨h1, h2⟩ := sb_en (sb_bx hs).2.1
    obtain ⟨hx, hxo⟩ := o1 x0 List.mem_cons_self
    have kx := (q_okn hxo).1
    have s1 := sb_e1 h1
    have fl := q_gfl (q_gk x0 F) F.length
    rw [show tw_ST_placeOf (iN (32 * p + (3 : UInt8).toNat)) = iN p from q_p (k := 3) (by omega) (by decide), show iN p + 4 = iN (p + 4) from iN_a p 4, q_vo h1 kx hx (by omega), show iN (32 * p + (3 : UInt8).toNat) = iN (32 * p + 3) from rfl]
    obtain ⟨ng, b1, a3, a4, a5, t1, a7, a8, a9, ky, hs1, fi, la, nx, u1, u2, u3, u4⟩ := c_ga (ngr := ngr) (vplace := vplace) (vlimit := vlimit) (vfull := vfull) (pcnt := pc) (pown := po) (pfix := pf) (pst := ps') (pen := pe) (pix := px) (gky := gky) (ghs := ghs) (gfi := gfi) (gla := gla) (gnx := gnx) hxo (by omega) (show p + 4 + x0.2.1.length + 2 + x0.2.2.length ≤ 2000 by omega) xf s1.2.2.2 hb
    rw [u1, q_tp16]
    try dsimp only
    have hs2 : sb b1 p (q_bx (x0 :: ps)) := sb_fr hs (fun j u v => u4 j (by omega))
    have hb2 : q_be b1 fb fcnt fsts F := q_bef hb (fun j u v => u4 j (by omega))
    obtain ⟨h', s', b2, c4, c5, c6, c7, c8, c9, c10, c11, c12, c13, w1, w2⟩ := c_sh (held := held) (gsum := gsum) (pcnt := a3) (pfix := a4) (pown := a5) (vplace := iN t1) (vlimit := iN 162000) (vfull := false) (pst := a7) (pen := a8) (pix := a9) (gvl := gvl) u2 (show e ≤ 16 by omega) hs2 hp o1 (q_okb (Or.inl rfl) o1 o2) c hb2 u3
    rw [w2, q_tp14]
    try dsimp only
    cases hh : q_hld (q_gk x0 F) F ps with
    | false =>
      rw [if_pos (show b2i false = 0 from rfl), if_neg (show ¬ false = true by decide)]
      exact ⟨_, _, _, _, _, _, _, _, _, _, _, _, _, _, _, _, _, _, _, _, _, _, _, _, [], rfl, q_bef h (fun j u v => (w1 j (by omega)).trans (u4 j (by omega))), (fun R _ _ q => absurd q (by decide)), fun j hj _ => (w1 j (by omega)).trans (u4 j (by omega))⟩
    | true =>
      rw [if_neg (show ¬ b2i true = 0 by decide), if_pos (show true = true from rfl)]
      obtain ⟨b3, b4, b5, b6, b7, b8, b9, b10, b11, b12, b13, b14, b15, b16, b17, b18, b19, b20, M, t2, t3, t4, t5⟩ := c_gr_h (fb := fb) (nb := nb) (p := p) (T := t1) (fcnt := fcnt) (ngr := ng) (fsts := fsts) (F := F) hd u2 (show e ≤ 16 by omega) hp o1 o2 c hh (q_gf (q_gk x0 F) F.length).length 0 ((ng.toInt - (0 : Int32).toInt).toNat + 1) h' s' place limit full b2 ncnt nsts [] c4 c5 c6 c7 c8 c9 c10 c11 c12 c13 (by omega) (by rw [u3.1, iN_i (by omega)]; show _ < (((q_gf (q_gk x0 F) F.length).length : Nat) - (0 : Int)).toNat + 1; omega) (sb_fr hs2 (fun j u v => w1 j (by omega))) (q_bef hb2 (fun j u v => w1 j (by omega))) (q_bef h (fun j u v => (w1 j (by omega)).trans (u4 j (by omega)))) (q_GIf u3 (Nat.le_refl _) (fun j hj => w1 j (by omega)))
      rw [List.drop_zero] at t2 t4
      exact ⟨_, b3, b4, b5, b6, b7, b8, b9, b10, b11, b12, b13, b14, b15, b16, b17, b18, b19, _, _, _, _, _, b20, M, t2, t3, fun R q _ _ => t4 R q, fun j hj hj2 => (t5 j (by omega) hj2).trans ((w1 j (by omega)).trans (u4 j (by omega)))⟩
