/-! the pure part: the class writes the document of a group -/
def q_gelm (F : List (List UInt8)) (l : List Nat) (y : q_P) : q_P := ((q_gval (q_wk (q_told y).2.1) (q_gv (q_told y) F l)).1, y.2.1, (q_gval (q_wk (q_told y).2.1) (q_gv (q_told y) F l)).2)
def q_gD (x0 : q_P) (ps : List q_P) (F : List (List UInt8)) (K : Nat → q_V) (g : Nat) : List UInt8 := q_bx (((K ((q_gf K F.length).getD g 0)).1, x0.2.1, (K ((q_gf K F.length).getD g 0)).2) :: ps.map (q_gelm F (q_gm K F.length g)))
theorem c_wg_h {L t E T g d fb : Nat} {nbase fcnt ncnt ngr : Int32} {fsts nsts gky ghs gfi gla gnx : Nat → Int32} {F : List (List UInt8)} {K : Nat → q_V} (hL : L ≤ 122000) (ht : 2000 ≤ t) (htL : t ≤ L) (hE : E < 2000) (hT : T ≤ 162000) (hdis : fb + 40000 ≤ t ∨ L ≤ fb) (hg : g < (q_gf K F.length).length) (hd16 : d ≤ 16) :
    ∀ (ps : List q_P) (e n i : Nat) (b0 : Nat → UInt8) (w : List UInt8) (r : q_T) (held : Int32) (gsum : Int64) (pcnt : Int32) (pfix : Bool) (pown vplace vlimit : Int32) (vfull : Bool) (pst pen pix gvl : Nat → Int32), sb b0 e (q_en ps) → q_op d ps → q_gff ps = 0 → (∀ y ∈ ps, q_wk (q_told y).2.1 = 2 → q_gsh K F y g = true) → E = e + (q_en ps).length → ps.length < n → 0 < i → i + ps.length ≤ 1000 → q_be b0 fb fcnt fsts F → q_GI fb T b0 K F.length ngr gky ghs gfi gla gnx → q_C L t false b0 ([0, 0, 0, 0] ++ w) r →
    ∃ h' s' r' b1 pc pf po vp vl vf ps' pe px gv, tw_GR_writeGroup_h37 (iN fb) nbase fcnt fsts ncnt nsts gky gfi gnx (iN g) (iN t) (iN E) n (iN e) (iN i) held gsum (iN r.1) (iN L) r.2.1 r.2.2 pcnt pfix pown vplace vlimit vfull pst pen pix gvl = (h', s', iN r'.1, iN L, r'.2.1, r'.2.2, pc, pf, po, vp, vl, vf, ps', pe, px, gv) ∧ (∀ j, j < 162000 → b1 j = b0 j) ∧
      q_C L t false b1 (q_l4 ((w ++ q_en (ps.map (q_gelm F (q_gm K F.length g)))).length + 5) ++ ((w ++ q_en (ps.map (q_gelm F (q_gm K F.length g)))) ++ [0])) r' := by
  intro ps
  induction ps with
  | nil =>
    intro e n i b0 w r held gsum pcnt pfix pown vplace vlimit vfull pst pen pix gvl _ _ _ _ he hn _ hi hb hG hr
    obtain ⟨n, rfl⟩ : ∃ m, n = m + 1 := ⟨n - 1, by omega⟩
    simp only [q_en, List.length_nil, Nat.add_zero] at he
    subst he
    obtain ⟨r', t1, t2⟩ := c_cls (L := L) (t := t) (o := false) (b := b0) (w := w) (r := r) (by omega) hr
    unfold tw_GR_writeGroup_h37
    rw [if_pos (Int32.le_refl _), t1, q_t4e, ite_self]
    refine ⟨_, _, r', b0, _, _, _, _, _, _, _, _, _, _, rfl, fun _ _ => rfl, ?_⟩
    rw [List.map_nil]
    show q_C L t false b0 (q_l4 ((w ++ []).length + 5) ++ ((w ++ []) ++ [0])) r'
    rw [List.append_nil]
    exact t2
  | cons y ps ih =>
    intro e n i b0 w r held gsum pcnt pfix pown vplace vlimit vfull pst pen pix gvl h ho hgf hsm he hn hi0 hi hb hG hr
    rw [List.length_cons] at hn hi
    obtain ⟨n, rfl⟩ : ∃ m, n = m + 1 := ⟨n - 1, by omega⟩
    obtain ⟨h1, h2⟩ := sb_en h
    obtain ⟨ha, hy⟩ := ho y List.mem_cons_self
    have F1 := hb.2.2.2.1.1
    have F2 := hb.2.2.2.1.2.1
    have F5 := hb.2.2.2.2.1
    have fl := q_gfl K F.length
    have e1 := q_e1l y
    have e2 := q_enl y ps
    have ky := (q_okn hy).1
    have gp := q_gff0 hgf List.mem_cons_self
    have gr : q_gff ps = 0 := by
      rw [q_gffc, if_pos gp] at hgf
      exact hgf
    have fr : ∀ j, j < t ∨ L ≤ j → r.2.2 j = b0 j := hr.1
    have h1' : sb r.2.2 e (q_e1 y) := sb_fr h1 (fun j u v => fr j (by omega))
    have hb' : q_be r.2.2 fb fcnt fsts F := q_bef hb (fun j u v => fr j (by omega))
    have hG' : q_GI fb T r.2.2 K F.length ngr gky ghs gfi gla gnx := q_GIf hG (Nat.le_refl _) (fun j hj => fr j (by omega))
    obtain ⟨bc, tc, pc, pf, po, ps', pe, px, gv1, c1, c2, c3⟩ := c_col (held := held) (vplace := vplace) (vlimit := vlimit) (vfull := vfull) (pcnt := pcnt) (pown := pown) (pfix := pfix) (pst := pst) (pen := pen) (pix := pix) (gvl := gvl) h1' hy hd16 (by omega) gp hb' hG' hg
    have vl : (q_gv (q_told y) F (q_gm K F.length g)).length ≤ 200 := by
      unfold q_gv
      rw [List.length_map]
      have := q_gmlen K F.length g
      omega
    have hc1 : sb bc e (q_e1 y) := sb_fr h1' (fun j u v => c3 j (by omega))
    obtain ⟨_, _, _, _, _, _, _, wk⟩ := q_ptl hc1 hy (by omega) gp
    have w9 := q_wk9 (q_told y).2.1
    have r2 := hr.2.1
    have r3 := hr.2.2.1
    obtain ⟨rw, gs, gv2, p1, p2⟩ := c_wp (L := L) (t := r.1) (fb := fb) (T := tc) (a := e + 1) (wk := q_wk (q_told y).2.1) (o := r.2.1) (gsum := gsum) (b := bc) (gvl := gv1) (nm := y.2.1) hL (by omega) r3 (by omega) c2 vl (sb_e1 hc1).2.1 (by omega) w9 (q_gp0 gp).2.2.2.1 (fun q => hsm y List.mem_cons_self q)
    obtain ⟨b0', m1, m2⟩ := q_Cm (b' := bc) (by omega) hr c3
    have W := q_Ca m2 p2
    rw [List.append_assoc] at W
    have fw : ∀ j, j < 2000 → rw.2.2 j = b0 j := fun j hj => (W.1 j (by omega)).trans (m1 j (by omega))
    unfold tw_GR_writeGroup_h37
    rw [if_neg (by simp (disch := omega) only [i_1000, iN_a, iN_c, iN_le, iN_lt, iN_eq, iN_i]; omega), if_neg (by simp (disch := omega) only [iN_a, iN_c, iN_le, iN_lt, iN_eq, iN_i]; omega), if_neg (by simp (disch := omega) only [i_0, iN_a, iN_c, iN_le, iN_lt, iN_eq, iN_i]; omega), q_vo h1' ky ha (by omega), c1, q_tp12, wk, show tw_ST_placeOf (iN (32 * (e + y.2.1.length + 2) + y.1.toNat)) = iN (e + y.2.1.length + 2) from q_p (by omega) ky, iN_s1 (by omega), show e + y.2.1.length + 2 - 1 = e + 1 + y.2.1.length by omega, show iN e + 1 = iN (e + 1) from iN_a e 1, p1, q_tp6]
    try dsimp only
    rw [q_eo hy (sb_fr (sb_e1 h1).2.2.2 (fun j u v => fw j (by omega))) (by omega), show iN i + 1 = iN (i + 1) from iN_a i 1, show e + y.2.1.length + 2 + y.2.2.length = e + (q_e1 y).length by omega]
    have I := ih (e + (q_e1 y).length) n (i + 1) b0' (w ++ q_e1 (q_gelm F (q_gm K F.length g) y)) rw (iN (q_gv (q_told y) F (q_gm K F.length g)).length) gs pc pf po (iN tc) (iN 202000) false ps' pe px gv2 (sb_fr h2 (fun j u v => m1 j (by omega))) (fun u hu => ho u (List.mem_cons_of_mem _ hu)) gr (fun u hu => hsm u (List.mem_cons_of_mem _ hu)) (by omega) (by omega) (by omega) (by omega) (q_bef hb (fun j u v => m1 j (by omega))) (q_GIf hG (Nat.le_refl _) (fun j hj => m1 j (by omega))) W
    obtain ⟨h', s', r', b1, a4, a5, a6, a7, a8, a9, a10, a11, a12, a13, u1, u2, u3⟩ := I
    rw [List.append_assoc] at u3
    refine ⟨h', s', r', b1, a4, a5, a6, a7, a8, a9, a10, a11, a12, a13, u1, fun j hj => (u2 j hj).trans (m1 j hj), ?_⟩
    rw [List.map_cons, q_enc]
    exact u3
theorem c_wg {b : Nat → UInt8} {fb nb p T g d : Nat} {fcnt ncnt ngr held place limit : Int32} {gsum : Int64} {full : Bool} {fsts nsts gky ghs gfi gla gnx : Nat → Int32} {F N : List (List UInt8)} {K : Nat → q_V} {x0 : q_P} {ps : List q_P} {pcnt pown vplace vlimit : Int32} {pfix vfull : Bool} {pst pen pix gvl : Nat → Int32} (hd : fb + 40000 ≤ nb ∨ nb + 40000 ≤ fb) (hT : T ≤ 162000) (hg : g < (q_gf K F.length).length) (hd16 : d ≤ 16) (hb : q_be b fb fcnt fsts F) (h : q_be b nb ncnt nsts N) (hs : sb b p (q_bx (x0 :: ps))) (hp : p + (q_bx (x0 :: ps)).length ≤ 2000) (ho : q_op d (x0 :: ps)) (hok : q_ok (d + 1) 3 (q_bx (x0 :: ps))) (hgf : q_gff ps = 0) (hsm : ∀ y ∈ ps, q_wk (q_told y).2.1 = 2 → q_gsh K F y g = true) (hG : q_GI fb T b K F.length ngr gky ghs gfi gla gnx) :
    ∃ h' s' r' b1 pc pf po vp vl vf ps' pe px gv, tw_GR_writeGroup (iN fb) (iN nb) fcnt fsts ncnt nsts gky gfi gnx held gsum place limit full b pcnt pfix pown vplace vlimit vfull pst pen pix gvl (iN (32 * p + 3)) (iN g) = (h', s', iN r'.1, iN (q_nL nb N), r'.2.1, r'.2.2, pc, pf, po, vp, vl, vf, ps', pe, px, gv) ∧ (∀ j, j < 162000 → b1 j = b j) ∧ q_C (q_nL nb N) (nb + N.flatten.length) false b1 (q_gD x0 ps F K g) r' := by
  have F1 := hb.2.2.2.1.1
  have F2 := hb.2.2.2.1.2.1
  have F5 := hb.2.2.2.2.1
  have F6 := hb.2.2.2.2.2
  have N6 := h.2.2.2.2.2
  have bl := q_bxl (x0 :: ps)
  have pl := q_psl (x0 :: ps)
  have e1 := q_e1l x0
  have e2 := q_enl x0 ps
  have fl := q_gfl K F.length
  rw [List.length_cons] at pl
  obtain ⟨n1, n2, n3, n4⟩ := c_next (place := place) (limit := limit) (full := full) h
  obtain ⟨r, a1, a2⟩ := c_op (L := q_nL nb N) (t := nb + N.flatten.length) (o := false) (b := b) n2 (by omega)
  have fr : ∀ j, j < nb + N.flatten.length ∨ q_nL nb N ≤ j → r.2.2 j = b j := a2.1
  have hs' : sb r.2.2 p (q_bx (x0 :: ps)) := sb_fr hs (fun j u v => fr j (by omega))
  obtain ⟨h1, h2⟩ := sb_en (sb_bx hs').2.1
  obtain ⟨hx, hxo⟩ := ho x0 List.mem_cons_self
  have kx := (q_okn hxo).1
  have s1 := sb_e1 h1
  have hG' : q_GI fb T r.2.2 K F.length ngr gky ghs gfi gla gnx := q_GIf hG (Nat.le_refl _) (fun j hj => fr j (by omega))
  obtain ⟨k1, _⟩ := hG'.2 g _ (List.getElem?_eq_getElem hg)
  obtain ⟨r1, c1, c2⟩ := c_nv (L := q_nL nb N) (t := r.1) (fb := fb) (A := 122000) (T := T) (a := p + 4 + 1) (o := r.2.1) (b := r.2.2) (nm := x0.2.1) n4 (by have := a2.2.1; omega) a2.2.2.1 (by have := a2.2.1; omega) (by omega) s1.2.1 (by omega) k1
  have W := q_Ca a2 c2
  have gd : (q_gf K F.length).getD g 0 = (q_gf K F.length)[g] := by
    rw [List.getD_eq_getElem?_getD, List.getElem?_eq_getElem hg]
    rfl
  rw [← gd] at W
  have fw : ∀ j, j < 2000 → r1.2.2 j = b j := fun j hj => W.1 j (by omega)
  unfold tw_GR_writeGroup
  rw [n1, q_tp3]
  try dsimp only
  rw [a1, q_tp5]
  try dsimp only
  rw [show tw_ST_endOf r.2.2 (iN (32 * p + 3)) = iN (p + (q_bx (x0 :: ps)).length) from q_eo hok hs' (by omega), show tw_ST_placeOf (iN (32 * p + 3)) = iN p from q_p (k := 3) (by omega) (by decide), iN_s1 (by omega), show iN p + 4 = iN (p + 4) from iN_a p 4]
  generalize hn : ((1000 : Int32).toInt - (0 : Int32).toInt).toNat + 1 = n
  have hn' : n = 1001 := by rw [← hn]; decide
  obtain ⟨n, rfl⟩ : ∃ m, n = m + 1 := ⟨n - 1, by omega⟩
  unfold tw_GR_writeGroup_h37
  rw [if_neg (show ¬ (1000 : Int32) ≤ 0 by decide), if_neg (by simp (disch := omega) only [iN_a, iN_c, iN_le, iN_lt, iN_eq, iN_i]; omega), if_pos (show (0 : Int32) = 0 from rfl), q_vo h1 kx hx (by omega), show tw_ST_placeOf (iN (32 * (p + 4 + x0.2.1.length + 2) + x0.1.toNat)) = iN (p + 4 + x0.2.1.length + 2) from q_p (by omega) kx, iN_s1 (by omega), show p + 4 + x0.2.1.length + 2 - 1 = p + 4 + 1 + x0.2.1.length by omega, show iN (p + 4) + 1 = iN (p + 4 + 1) from iN_a _ 1, iN_c (by omega)]
  rw [q_tp4] at c1 ⊢
  rw [c1, q_t4e]
  try dsimp only
  rw [q_eo hxo (sb_fr (sb_e1 ((sb_en (sb_bx hs).2.1).1)).2.2.2 (fun j u v => fw j (by omega))) (by omega), show (0 : Int32) + 1 = iN 1 from rfl, show p + 4 + x0.2.1.length + 2 + x0.2.2.length = p + 4 + (q_e1 x0).length by omega]
  obtain ⟨h', s', r', b1, a4, a5, a6, a7, a8, a9, a10, a11, a12, a13, u1, u2, u3⟩ := c_wg_h (L := q_nL nb N) (t := nb + N.flatten.length) (E := p + (q_bx (x0 :: ps)).length - 1) (nbase := iN nb) (ncnt := ncnt) (nsts := nsts) n4 (by omega) n2 (by omega) hT (by omega) hg hd16 ps (p + 4 + (q_e1 x0).length) n 1 b (q_e1 ((K ((q_gf K F.length).getD g 0)).1, x0.2.1, (K ((q_gf K F.length).getD g 0)).2)) r1 held gsum pcnt pfix pown vplace vlimit vfull pst pen pix gvl (sb_en (sb_bx hs).2.1).2 (fun u hu => ho u (List.mem_cons_of_mem _ hu)) hgf hsm (by omega) (by omega) (by omega) (by omega) hb hG W
  exact ⟨h', s', r', b1, a4, a5, a6, a7, a8, a9, a10, a11, a12, a13, u1, u2, u3⟩
