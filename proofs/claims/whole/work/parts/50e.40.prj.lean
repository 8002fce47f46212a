/-! the pure part: the class's $project -/
def q_p1 (ds : List q_P) (doc : List UInt8) (x : q_P) : Option q_V := if x.1 = 8 ∧ x.2.2 = [1] then (q_fn x.2.1 ds).map (fun z => (z.2.1, z.2.2.2)) else q_xv x.1 x.2.2 doc
def q_pe1 (ds : List q_P) (doc : List UInt8) (x : q_P) : Option q_P := (q_p1 ds doc x).map (fun z => (z.1, x.2.1, z.2))
abbrev q_J : Type := Int32 × Int32 × Bool × Int32 × Int32 × Int32 × Bool × (Nat → UInt8) × (Nat → Int32) × (Nat → Int32) × (Nat → Int32)
def q_cj (P m : Nat) (b : Nat → UInt8) (R : q_J) (z : Option q_V) : Prop :=
  ∃ f pc pf po vp vl vf b' ps pe px, R = (f, pc, pf, po, vp, vl, vf, b', ps, pe, px) ∧ (∀ j, j < 162000 → b' j = b j) ∧
  match z with
  | none => f = 0
  | some z => ∃ Q, f = iN (32 * Q + z.1.toNat) ∧ sb b' Q z.2 ∧ Q + z.2.length ≤ 202000 ∧ (162000 ≤ Q ∨ (P ≤ Q ∧ Q + z.2.length ≤ P + m) ∨ Q + z.2.length ≤ 2000)
theorem c_pje {b : Nat → UInt8} {d d2 p P : Nat} {k : UInt8} {v doc : List UInt8} {pcnt pown vplace vlimit : Int32} {pfix vfull : Bool} {pst pen pix : Nat → Int32} (ho : q_ok d k v) (h : sb b p v) (hp : p + v.length ≤ 2000) (hx : q_xf k v = 0)
    (hd : q_ok d2 3 doc) (hd2 : d2 ≤ 20) (hD : sb b P doc) (hP : 2000 ≤ P) (hP2 : P + doc.length ≤ 122000) (hv : doc.length ≤ 2000) :
    q_cj P doc.length b (tp3 (tw_PA_makeRowsAt vplace vlimit vfull 162000) (fun vplace_2 vlimit_2 vfull_2 =>
      tp7 (tw_PA_readExpression b pcnt pfix pown pst pen pix (iN (32 * p + k.toNat))) (fun r_3 pcnt_3 pfix_3 pown_3 pst_3 pen_3 pix_3 =>
        if (b2i r_3) = 0 then
          (0, pcnt_3, pfix_3, pown_3, vplace_2, vlimit_2, vfull_2, b, pst_3, pen_3, pix_3)
        else
          tp5 (tw_PA_val0 pcnt_3 pfix_3 pown_3 pst_3 pen_3 vplace_2 vlimit_2 vfull_2 b (iN (32 * P + 3))) (fun r_5 vplace_5 vlimit_5 vfull_5 b_5 =>
            (r_5, pcnt_3, pfix_3, pown_3, vplace_5, vlimit_5, vfull_5, b_5, pst_3, pen_3, pix_3))))) (q_xv k v doc) := by
  obtain ⟨pc, pf, po, ps, pe, px, t1, t2⟩ := (c_re (pcnt := pcnt) (pown := pown) (pfix := pfix) (pst := pst) (pen := pen) (pix := pix) ho h hp).1 hx
  unfold tw_PA_makeRowsAt
  rw [show (162000 : Int32) = iN 162000 from rfl, show (40000 : Int32) = iN 40000 from rfl, c_aim (by omega), t1, q_tp3, q_tp3, q_tp7]
  dsimp only
  rw [if_neg (show ¬ b2i true = 0 by decide), q_tp5]
  have X := c_xv (t := 162000) (L := 162000 + 40000) ho h hp t2 hd hd2 hD hP (by omega) (by omega) (by omega) (by omega) hv
  generalize tw_PA_val0 pc pf po ps pe (iN 162000) (iN (162000 + 40000)) false b (iN (32 * P + 3)) = R at X ⊢
  cases hz : q_xv k v doc with
  | none =>
    rw [hz] at X
    have X' : R = (0, iN 162000, iN (162000 + 40000), false, b) := X
    subst X'
    exact ⟨_, _, _, _, _, _, _, _, _, _, _, rfl, fun _ _ => rfl, rfl⟩
  | some z =>
    rw [hz] at X
    obtain ⟨Q, t', b', x1, x2, x3, x4, x5, x6⟩ := X
    subst x1
    refine ⟨_, _, _, _, _, _, _, _, _, _, _, rfl, fun j hj => x3 j (Or.inl hj), Q, rfl, x2, ?_, ?_⟩
    · rcases x4 with ⟨a1, a2⟩ | ⟨a1, a2, a3, a4⟩ | ⟨a1, a2, a3⟩ <;> omega
    · rcases x4 with ⟨a1, a2⟩ | ⟨a1, a2, a3, a4⟩ | ⟨a1, a2, a3⟩
      · exact Or.inl (by omega)
      · exact Or.inr (Or.inl ⟨a1, a2⟩)
      · exact Or.inr (Or.inr a1)
theorem c_pjd {b : Nat → UInt8} {d d2 p a P : Nat} {x : q_P} {ds : List q_P} {pcnt pown vplace vlimit : Int32} {pfix vfull : Bool} {pst pen pix : Nat → Int32} (ho : q_ok d x.1 x.2.2) (h : sb b p x.2.2) (hp : p + x.2.2.length ≤ 2000) (hx : q_xf x.1 x.2.2 = 0) (ha : sb b a x.2.1) (ha2 : a + x.2.1.length ≤ 2000)
    (hd : q_op d2 ds) (hdd : q_ok (d2 + 1) 3 (q_bx ds)) (hd2 : d2 < 20) (hD : sb b P (q_bx ds)) (hP : 2000 ≤ P) (hP2 : P + (q_bx ds).length ≤ 122000) (hv : (q_bx ds).length ≤ 2000) :
    q_cj P (q_bx ds).length b (tw_SH_projected pcnt pfix pown vplace vlimit vfull b pst pen pix (iN (32 * p + x.1.toNat)) (iN a) (iN (a + x.2.1.length)) (iN (32 * P + 3))) (q_p1 ds (q_bx ds) x) := by
  have kx := (q_okn ho).1
  have E := c_pje (pcnt := pcnt) (pown := pown) (vplace := vplace) (vlimit := vlimit) (pfix := pfix) (vfull := vfull) (pst := pst) (pen := pen) (pix := pix) ho h hp hx hdd (by omega) hD hP hP2 hv
  unfold tw_SH_projected q_p1
  rw [show tw_ST_kindOf (iN (32 * p + x.1.toNat)) = iN x.1.toNat from q_k (by omega) kx, show tw_ST_placeOf (iN (32 * p + x.1.toNat)) = iN p from q_p (by omega) kx]
  by_cases c8 : x.1 = 8
  rotate_left
  · rw [if_neg (fun z => c8 (by rw [show (8 : Int32) = iN 8 from rfl, iN_eq (by omega) (by omega), q_ko x.1 8 (by omega)] at z; exact z)), if_neg (fun z => c8 z.1)]
    exact E
  have l8 : x.2.2 = [0] ∨ x.2.2 = [1] := by
    have l := q_okl ho (by rw [c8]; decide) (by rw [c8]; decide)
    unfold q_lf at l
    rcases l with ⟨e, _⟩ | ⟨e, _⟩ | ⟨_, e⟩ | ⟨e, _⟩ | ⟨e, _⟩
    · rw [c8] at e
      exact absurd e (by decide)
    · rw [c8] at e
      exact absurd e (by decide)
    · exact e
    · rw [c8] at e
      exact absurd e (by decide)
    · rw [c8] at e
      exact absurd e (by decide)
  rw [if_pos (by rw [c8]; rfl)]
  rcases l8 with l8 | l8
  · have b0 : b p = 0 := by
      rw [l8] at h
      exact h.1
    rw [q_at (by omega), b0, if_neg (by decide), if_neg (fun z => by rw [l8] at z; exact absurd z.2 (by decide))]
    exact E
  · have b1 : b p = 1 := by
      rw [l8] at h
      exact h.1
    rw [q_at (by omega), b1, if_pos (by decide), if_pos ⟨c8, l8⟩]
    have fi := q_fi (x := x.2.1) (k := 3) (Or.inl rfl) hD hd (by omega) (by omega) ha (by omega)
    refine ⟨_, _, _, _, _, _, _, _, _, _, _, rfl, fun _ _ => rfl, ?_⟩
    rw [show iN (32 * P + 3) = iN (32 * P + (3 : UInt8).toNat) from rfl, fi]
    cases hy : q_fn x.2.1 ds with
    | none => rfl
    | some y =>
      obtain ⟨f1, f2, a2, c2, f3, f4⟩ := q_fnm (o := y.1) (y := y.2) hy
      have il := q_inl (a := a2) (c := c2) (x := y.2)
      rw [← f3, ← f4] at il
      have hin : sb b (P + 4 + y.1) (q_e1 y.2) := by
        have h' := hD
        rw [f3] at h'
        have := sb_in h'
        rwa [← f4] at this
      have s1 := sb_e1 hin
      have e1 := q_e1l y.2
      have bl := q_bxl ds
      exact ⟨P + 4 + y.1 + y.2.2.1.length + 2, rfl, s1.2.2.2, by show _ + y.2.2.2.length ≤ _; omega, Or.inr (Or.inl ⟨by omega, by show _ + y.2.2.2.length ≤ _; omega⟩)⟩
theorem q_p1o {d d2 : Nat} {x : q_P} {ds : List q_P} {z : q_V} (ho : q_ok d x.1 x.2.2) (hv : x.2.2.length ≤ 2000) (hd : q_op d2 ds) (hdd : q_ok (d2 + 1) 3 (q_bx ds)) (hl : (q_bx ds).length ≤ 2000) (h : q_p1 ds (q_bx ds) x = some z) : q_ok (max d (d2 + 1)) z.1 z.2 ∧ z.2.length ≤ 2000 := by
  unfold q_p1 at h
  split at h
  · cases hy : q_fn x.2.1 ds with
    | none =>
      rw [hy] at h
      cases h
    | some y =>
      rw [hy] at h
      obtain ⟨f1, f2, _⟩ := q_fnm (o := y.1) (y := y.2) hy
      have := q_enm f1
      have bl := q_bxl ds
      cases h
      exact ⟨q_okm (hd y.2 f1).2 (by omega), by show y.2.2.2.length ≤ 2000; omega⟩
  · obtain ⟨a1, a2⟩ := q_xvp ho hdd hl hv h
    exact ⟨a2, a1⟩
theorem q_Cm {L t : Nat} {o : Bool} {b0 b' : Nat → UInt8} {w : List UInt8} {r : q_T} (hL : L ≤ 162000) (h : q_C L t o b0 w r) (hb : ∀ j, j < 162000 → b' j = r.2.2 j) : ∃ b1, (∀ j, j < 162000 → b1 j = b0 j) ∧ q_C L t o b1 w (r.1, r.2.1, b') := by
  obtain ⟨h1, h2, h3, h4, h5⟩ := h
  refine ⟨fun j => if j < 162000 then b0 j else b' j, fun j hj => if_pos hj, ?_, h2, h3, ?_, h5⟩
  · intro j hj
    show b' j = if j < 162000 then b0 j else b' j
    by_cases c : j < 162000
    · rw [if_pos c, hb j c, h1 j hj]
    · rw [if_neg c]
  · intro q
    obtain ⟨a1, a2, a3⟩ := h4 q
    exact ⟨a1, a2, sb_fr a3 (fun j u v => hb j (by omega))⟩
theorem q_tp11 {T1 T2 T3 T4 T5 T6 T7 T8 T9 T10 T11 Z : Type} (x1 : T1) (x2 : T2) (x3 : T3) (x4 : T4) (x5 : T5) (x6 : T6) (x7 : T7) (x8 : T8) (x9 : T9) (x10 : T10) (x11 : T11) (f : T1 → T2 → T3 → T4 → T5 → T6 → T7 → T8 → T9 → T10 → T11 → Z) : tp11 (x1, x2, x3, x4, x5, x6, x7, x8, x9, x10, x11) f = f x1 x2 x3 x4 x5 x6 x7 x8 x9 x10 x11 := rfl
theorem q_fmc {f : q_P → Option q_P} {x : q_P} {r : List q_P} : (x :: r).filterMap f = (match f x with | none => r.filterMap f | some y => y :: r.filterMap f) := by
  rw [List.filterMap_cons]
  cases f x <;> rfl
theorem c_wpj_h {nbase ncnt : Int32} {nsts : Nat → Int32} {L t P E d d2 : Nat} {ds : List q_P} (hL : L ≤ 122000) (ht : 2000 ≤ t) (htL : t ≤ L) (hE : E < 2000) (hd : q_op d2 ds) (hdd : q_ok (d2 + 1) 3 (q_bx ds)) (hd2 : d2 < 20) (hP : 2000 ≤ P) (hP2 : P + (q_bx ds).length ≤ 122000) (hv : (q_bx ds).length ≤ 2000) (hPd : P + (q_bx ds).length ≤ t ∨ L ≤ P) :
    ∀ (ps : List q_P) (e n i : Nat) (b0 : Nat → UInt8) (w : List UInt8) (r : q_T) (pcnt : Int32) (pfix : Bool) (pown vplace vlimit : Int32) (vfull : Bool) (pst pen pix : Nat → Int32), sb b0 e (q_en ps) → q_op d ps → (∀ x ∈ ps, q_xf x.1 x.2.2 = 0) → E = e + (q_en ps).length → ps.length < n → i + ps.length ≤ 1000 → sb b0 P (q_bx ds) → q_C L t false b0 ([0, 0, 0, 0] ++ w) r →
    ∃ r' b1 pc pf po vp vl vf ps' pe px, tw_SH_writeProjected_h37 nbase ncnt nsts (iN (32 * P + 3)) (iN t) (iN E) n (iN e) (iN i) (iN r.1) (iN L) r.2.1 r.2.2 pcnt pfix pown vplace vlimit vfull pst pen pix = (iN r'.1, iN L, r'.2.1, r'.2.2, pc, pf, po, vp, vl, vf, ps', pe, px) ∧ (∀ j, j < 162000 → b1 j = b0 j) ∧
      q_C L t false b1 (q_l4 ((w ++ q_en (ps.filterMap (q_pe1 ds (q_bx ds)))).length + 5) ++ ((w ++ q_en (ps.filterMap (q_pe1 ds (q_bx ds)))) ++ [0])) r' := by
  intro ps
  induction ps with
  | nil =>
    intro e n i b0 w r pcnt pfix pown vplace vlimit vfull pst pen pix hs ho hx he hn hi hD hr
    obtain ⟨n, rfl⟩ : ∃ m, n = m + 1 := ⟨n - 1, by omega⟩
    simp only [q_en, List.length_nil, Nat.add_zero] at he
    subst he
    obtain ⟨r', e1, e2⟩ := c_cls (by omega) hr
    unfold tw_SH_writeProjected_h37
    rw [if_pos (Int32.le_refl _), ite_self, e1, q_t4e]
    rw [List.filterMap_nil, show q_en [] = [] from rfl, List.append_nil]
    exact ⟨r', b0, _, _, _, _, _, _, _, _, _, rfl, fun _ _ => rfl, e2⟩
  | cons x ps ih =>
    intro e n i b0 w r pcnt pfix pown vplace vlimit vfull pst pen pix hs ho hx he hn hi hD hr
    obtain ⟨n, rfl⟩ : ∃ m, n = m + 1 := ⟨n - 1, by omega⟩
    have r2 := hr.2.1
    have r3 := hr.2.2.1
    have lo : ∀ j, j < t → r.2.2 j = b0 j := fun j hj => hr.1 j (Or.inl hj)
    have hs' : sb r.2.2 e (q_en (x :: ps)) := sb_fr hs (fun j u v => lo j (by omega))
    have hD' : sb r.2.2 P (q_bx ds) := sb_fr hD (fun j u v => hr.1 j (by omega))
    obtain ⟨h1, h2⟩ := sb_en hs'
    obtain ⟨hm, hb⟩ := ho x List.mem_cons_self
    have e1 := q_e1l x
    have e2 := q_enl x ps
    have kx := (q_okn hb).1
    have s1 := sb_e1 h1
    rw [List.length_cons] at hn hi
    have pl2 : tw_ST_placeOf (iN (32 * (e + x.2.1.length + 2) + x.1.toNat)) = iN (e + x.2.1.length + 2) := q_p (by omega) kx
    obtain ⟨f, pc, pf, po, vp, vl, vf, b', ps', pe, px, g1, g2, g3⟩ := c_pjd (p := e + x.2.1.length + 2) (a := e + 1) (pcnt := pcnt) (pown := pown) (vplace := vplace) (vlimit := vlimit) (pfix := pfix) (vfull := vfull) (pst := pst) (pen := pen) (pix := pix) hb s1.2.2.2 (by omega) (hx x List.mem_cons_self) s1.2.1 (by omega) hd hdd hd2 hD' hP hP2 hv
    obtain ⟨b1, m1, m2⟩ := q_Cm (b' := b') (by omega) hr g2
    have hs1 : sb b1 (e + (q_e1 x).length) (q_en ps) := sb_fr (sb_en hs).2 (fun j u v => m1 j (by omega))
    have hD1 : sb b1 P (q_bx ds) := sb_fr hD (fun j u v => m1 j (by omega))
    have ho1 : q_op d ps := fun y hy => ho y (List.mem_cons_of_mem _ hy)
    have hx1 : ∀ y ∈ ps, q_xf y.1 y.2.2 = 0 := fun y hy => hx y (List.mem_cons_of_mem _ hy)
    have eo : ∀ b2 : Nat → UInt8, (∀ j, j < 2000 → b2 j = b0 j) → tw_ST_endOf b2 (iN (32 * (e + x.2.1.length + 2) + x.1.toNat)) = iN (e + (q_e1 x).length) := by
      intro b2 hb2
      rw [q_eo hb (sb_fr (sb_e1 (sb_en hs).1).2.2.2 (fun j u v => hb2 j (by omega))) (by omega)]
      exact congrArg iN (by omega)
    unfold tw_SH_writeProjected_h37
    rw [if_neg (by simp (disch := omega) only [i_1000, iN_a, iN_c, iN_le, iN_lt, iN_eq, iN_i]; omega), if_neg (by simp (disch := omega) only [iN_a, iN_c, iN_le, iN_lt, iN_eq, iN_i]; omega), q_vo h1 kx hm (by omega), pl2, iN_s1 (by omega), show e + x.2.1.length + 2 - 1 = e + 1 + x.2.1.length by omega, show iN e + 1 = iN (e + 1) from iN_a e 1, show iN i + 1 = iN (i + 1) from iN_a i 1, g1, q_tp11, q_fmc]
    unfold q_pe1
    cases hz : q_p1 ds (q_bx ds) x with
    | none =>
      rw [hz] at g3
      have f0 : f = 0 := g3
      rw [if_pos f0, eo b' (fun j hj => by rw [g2 j (by omega), lo j (by omega)])]
      obtain ⟨r', b2, pc2, pf2, po2, vp2, vl2, vf2, ps2, pe2, px2, k1, k2, k3⟩ := ih (e + (q_e1 x).length) n (i + 1) b1 w (r.1, r.2.1, b') pc pf po vp vl vf ps' pe px hs1 ho1 hx1 (by omega) (by omega) (by omega) hD1 m2
      exact ⟨r', b2, pc2, pf2, po2, vp2, vl2, vf2, ps2, pe2, px2, k1, fun j hj => (k2 j hj).trans (m1 j hj), k3⟩
    | some z =>
      rw [hz] at g3
      obtain ⟨Q, q1, q2, q3, q4⟩ := g3
      obtain ⟨zo, zl⟩ := q_p1o hb (by omega) hd hdd hv hz
      have kz := q_okn zo
      have f0 : ¬ f = 0 := by
        rw [q1, show (0 : Int32) = iN 0 from rfl, iN_eq (by omega) (by omega)]
        omega
      have sep : Q + z.2.length ≤ t ∨ L ≤ Q := by omega
      rw [if_neg f0, q1, show tw_ST_kindOf (iN (32 * Q + z.1.toNat)) = iN z.1.toNat from q_k (by omega) kz.1, show tw_ST_placeOf (iN (32 * Q + z.1.toNat)) = iN Q from q_p (by omega) kz.1]
      obtain ⟨n1, n2, n3⟩ := c_nm (L := L) (t := r.1) (a := e + 1) (o := r.2.1) (b := b') (k := z.1) (l := x.2.1) r3 (by omega) (sb_fr s1.2.1 (fun j u v => g2 j (by omega))) (by omega) (by omega)
      rw [n2, q_t4e]
      have qs : sb n1.2.2 Q z.2 := sb_fr q2 (fun j u v => n3.1 j (by omega))
      rw [q_eo zo qs q3]
      obtain ⟨c1, c2, c3⟩ := c_cp (L := L) (t := n1.1) (a := Q) (o := n1.2.1) (b := n1.2.2) (l := z.2) n3.2.2.1 (by omega) qs q3
      have n4 := n3.2.1
      rw [c2, q_t4e, eo c1.2.2 (fun j hj => by rw [c3.1 j (by omega), n3.1 j (by omega), g2 j (by omega), lo j (by omega)])]
      have W := q_Ca (q_Ca m2 n3) c3
      rw [show ([0, 0, 0, 0] ++ w) ++ (z.1 :: (x.2.1 ++ [0])) ++ z.2 = [0, 0, 0, 0] ++ (w ++ q_e1 (z.1, x.2.1, z.2)) by simp [q_e1, List.append_assoc]] at W
      obtain ⟨r', b2, pc2, pf2, po2, vp2, vl2, vf2, ps2, pe2, px2, k1, k2, k3⟩ := ih (e + (q_e1 x).length) n (i + 1) b1 (w ++ q_e1 (z.1, x.2.1, z.2)) c1 pc pf po vp vl vf ps' pe px hs1 ho1 hx1 (by omega) (by omega) (by omega) hD1 W
      refine ⟨r', b2, pc2, pf2, po2, vp2, vl2, vf2, ps2, pe2, px2, k1, fun j hj => (k2 j hj).trans (m1 j hj), ?_⟩
      rw [List.append_assoc w, ← q_enc] at k3
      exact k3
