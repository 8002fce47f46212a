/-! the pure part: $lookup; the class writes what belongs -/
theorem q_Cov {L t : Nat} {o : Bool} {b : Nat → UInt8} {w w' : List UInt8} {r : q_T} (h : q_C L t o b w r) (hr : r.2.1 = true) (hl : w.length ≤ w'.length) : q_C L t o b w' r := by
  obtain ⟨a1, a2, a3, a4, a5⟩ := h
  refine ⟨a1, a2, a3, fun q => ?_, fun _ => hr⟩
  obtain ⟨_, b2, _⟩ := a4 ⟨q.1, by omega⟩
  rw [hr] at b2
  cases b2
/-- the documents of a belt from j on that are chosen -/
def q_mi (p : Nat → Bool) (B : List (List UInt8)) (j : Nat) : List q_V := (((List.range B.length).drop j).filter p).map (fun d => ((3 : UInt8), B.getD d []))
theorem q_mie (p : Nat → Bool) (B : List (List UInt8)) : q_mi p B B.length = [] := by
  unfold q_mi
  rw [List.drop_eq_nil_of_le (by rw [List.length_range]; exact Nat.le_refl _)]
  rfl
theorem q_mis (p : Nat → Bool) {B : List (List UInt8)} {j : Nat} (h : j < B.length) : q_mi p B j = if p j = true then (3, B.getD j []) :: q_mi p B (j + 1) else q_mi p B (j + 1) := by
  unfold q_mi
  rw [List.drop_eq_getElem_cons (by rw [List.length_range]; exact h), List.getElem_range]
  by_cases c : p j = true
  · rw [if_pos c, List.filter_cons_of_pos c, List.map_cons]
  · rw [if_neg c, List.filter_cons_of_neg c]
theorem q_bxm {A E : List q_V} : (q_bx (q_rn 0 A)).length ≤ (q_bx (q_rn 0 (A ++ E))).length := by
  rw [q_bxl, q_bxl, q_rna, q_ena, List.length_append]
  omega
theorem c_fw_h {L t kb i : Nat} {o : Bool} {b0 : Nat → UInt8} {kcnt : Int32} {ksts fow : Nat → Int32} {B : List (List UInt8)} {p : Nat → Bool} (hL : L ≤ 122000) (ht : 2000 ≤ t) (hdis : kb + 40000 ≤ t ∨ L ≤ kb) (hb : q_be b0 kb kcnt ksts B) (hp : ∀ d, d < B.length → (fow d = iN i ↔ p d = true)) :
    ∀ (m j n : Nat) (A : List q_V) (r : q_T), j + m = B.length → m < n → A.length ≤ j → q_C L t o b0 ([0, 0, 0, 0] ++ q_en (q_rn 0 A)) r →
    ∃ r', tw_FI_writeRow_h11 (iN kb) kcnt ksts fow (iN i) (iN t) n (iN A.length) (iN j) (iN r.1) (iN L) r.2.1 r.2.2 = q_e4 L r' ∧ q_C L t o b0 (q_bx (q_rn 0 (A ++ q_mi p B j))) r' := by
  have F1 := hb.2.2.2.1.1
  have F2 := hb.2.2.2.1.2.1
  have F5 := hb.2.2.2.2.1
  have F6 := hb.2.2.2.2.2
  intro m
  induction m with
  | zero =>
    intro j n A r hj hn hA hr
    obtain ⟨n, rfl⟩ : ∃ m, n = m + 1 := ⟨n - 1, by omega⟩
    have : j = B.length := by omega
    subst this
    obtain ⟨r', t1, t2⟩ := c_cls (L := L) (t := t) (o := o) (b := b0) (w := q_en (q_rn 0 A)) (r := r) (by omega) hr
    unfold tw_FI_writeRow_h11
    rw [if_pos (by rw [hb.1]; exact Int32.le_refl _), t1, q_t4e, q_mie, List.append_nil]
    exact ⟨r', rfl, t2⟩
  | succ m ih =>
    intro j n A r hj hn hA hr
    obtain ⟨n, rfl⟩ : ∃ m, n = m + 1 := ⟨n - 1, by omega⟩
    have jl : j < B.length := by omega
    unfold tw_FI_writeRow_h11
    rw [if_neg (by rw [hb.1]; simp (disch := omega) only [iN_a, iN_c, iN_le, iN_lt, iN_eq, iN_i]; omega), if_neg (by simp (disch := omega) only [i_200, iN_a, iN_c, iN_le, iN_lt, iN_eq, iN_i]; omega)]
    cases hf : r.2.1 with
    | true =>
      obtain ⟨r', t1, t2⟩ := c_cls (L := L) (t := t) (o := o) (b := b0) (w := q_en (q_rn 0 A)) (r := r) (by omega) hr
      rw [hf] at t1
      rw [if_neg (show ¬ b2i true = 0 by decide), t1, q_t4e]
      have nf : ¬ (o = false ∧ t + (([0, 0, 0, 0] : List UInt8) ++ q_en (q_rn 0 A)).length ≤ L) := by
        intro q
        have := (hr.2.2.2.1 q).2.1
        rw [hf] at this
        cases this
      have fl : r'.2.1 = true := t2.2.2.2.2 (fun q => nf ⟨q.1, by
        have q2 := q.2
        rw [List.length_append, List.length_append, q_l4l] at q2
        rw [List.length_append]
        show t + (4 + _) ≤ L
        simp only [List.length_cons, List.length_nil] at q2
        omega⟩)
      exact ⟨r', rfl, q_Cov t2 fl q_bxm⟩
    | false =>
      rw [if_pos (show b2i false = 0 from rfl), iN_c (by omega), q_mis p jl, show iN j + 1 = iN (j + 1) from iN_a j 1]
      by_cases c : fow j = iN i
      · have pj := (hp j jl).1 c
        have hk : B[j]? = some B[j] := List.getElem?_eq_getElem jl
        obtain ⟨d1, d2, d3, d4⟩ := q_bed hb hk
        have gd := q_gdd hk
        obtain ⟨r1, a1, a2⟩ := c_ix (L := L) (t := r.1) (v := A.length) (o := false) (b := r.2.2) (k := 3) (by omega) hr.2.2.1 (by omega)
        have hr' := hr
        rw [show r = (r.1, r.2.1, r.2.2) from rfl, hf] at hr'
        have W1 := q_Ca hr' a2
        have sP : sb r1.2.2 (kb + q_pf B j) B[j] := sb_fr d1 (fun x u v => W1.1 x (by omega))
        obtain ⟨r2, b1, b2⟩ := c_cp (L := L) (t := r1.1) (a := kb + q_pf B j) (o := r1.2.1) (b := r1.2.2) (l := B[j]) a2.2.2.1 (by omega) sP (by omega)
        have W2 := q_Ca W1 b2
        have e : [0, 0, 0, 0] ++ q_en (q_rn 0 A) ++ ((3 : UInt8) :: (q_dg A.length ++ [0])) ++ B[j] = [0, 0, 0, 0] ++ q_en (q_rn 0 (A ++ [(3, B[j])])) := by
          rw [q_rna, q_ena, Nat.zero_add]
          show _ = [0, 0, 0, 0] ++ (q_en (q_rn 0 A) ++ (q_e1 (3, q_dg A.length, B[j]) ++ []))
          unfold q_e1
          simp [List.append_assoc]
        rw [e] at W2
        rw [if_pos c, show tw_WR_index (iN r.1) (iN L) false r.2.2 3 (iN A.length) = q_e4 L r1 from a1, q_t4e, q_bes hb (by omega), q_bes hb (by omega), q_pfs hk, ← Nat.add_assoc, b1, q_t4e, show iN A.length + 1 = iN (A ++ [((3 : UInt8), B[j])]).length by rw [List.length_append, List.length_singleton]; exact iN_a _ 1]
        obtain ⟨r', c1, c2⟩ := ih (j + 1) n (A ++ [(3, B[j])]) r2 (by omega) (by omega) (by rw [List.length_append, List.length_singleton]; omega) W2
        rw [if_pos pj, gd]
        rw [List.append_assoc] at c2
        exact ⟨r', c1, c2⟩
      · have pj : ¬ p j = true := fun q => c ((hp j jl).2 q)
        rw [if_neg c, if_neg pj]
        obtain ⟨r', c1, c2⟩ := ih (j + 1) n A r (by omega) (by omega) (by omega) hr
        rw [hf] at c1
        exact ⟨r', c1, c2⟩
theorem c_fwr {L t kb i : Nat} {o : Bool} {b : Nat → UInt8} {kcnt : Int32} {ksts fow : Nat → Int32} {B : List (List UInt8)} {p : Nat → Bool} (hL : L ≤ 122000) (ht : 2000 ≤ t) (htL : t ≤ L) (hdis : kb + 40000 ≤ t ∨ L ≤ kb) (hb : q_be b kb kcnt ksts B) (hp : ∀ d, d < B.length → (fow d = iN i ↔ p d = true)) :
    ∃ r', tw_FI_writeRow (iN kb) kcnt ksts fow (iN t) (iN L) o b (iN i) = q_e4 L r' ∧ q_C L t o b (q_bx (q_rn 0 (q_mi p B 0))) r' := by
  have F1 := hb.2.2.2.1.1
  obtain ⟨r, a1, a2⟩ := c_op (L := L) (t := t) (o := o) (b := b) htL (by omega)
  unfold tw_FI_writeRow
  rw [a1, q_tp5]
  try dsimp only
  generalize hn : ((200 : Int32).toInt - (0 : Int32).toInt).toNat + 1 = n
  have hn' : n = 201 := by rw [← hn]; decide
  obtain ⟨r', c1, c2⟩ := c_fw_h (i := i) hL ht hdis hb hp B.length 0 n [] r (by omega) (by omega) (Nat.le_refl _) a2
  exact ⟨r', c1, c2⟩
/-- the elements of a document with a row under a name -/
def q_lkE (nm row : List UInt8) (ps : List q_P) : List q_P := match q_fn nm ps with | none => ps ++ [(4, nm, row)] | some _ => ps.map (q_r1 nm (4, row) none)
theorem c_wm {b : Nat → UInt8} {fb kb nb P W i : Nat} {kcnt ncnt place limit : Int32} {full : Bool} {ksts nsts fow : Nat → Int32} {B N : List (List UInt8)} {D nm : List UInt8} {p : Nat → Bool} (hdk : kb + 40000 ≤ nb ∨ nb + 40000 ≤ kb) (hdf : fb + 40000 ≤ nb ∨ nb + 40000 ≤ fb) (hb : q_be b kb kcnt ksts B) (h : q_be b nb ncnt nsts N) (hD : sb b P D) (hDo : q_ok 16 3 D) (hDl : D.length ≤ 2000) (hP : fb ≤ P) (hP2 : P + D.length ≤ fb + 40000) (hP3 : fb + 40000 ≤ 122000) (hP0 : 2000 ≤ fb) (hnm : sb b W (q_tx nm)) (hW : W + (q_tx nm).length ≤ 2000) (hp : ∀ d, d < B.length → (fow d = iN i ↔ p d = true)) :
    ∃ r', tw_FI_writeMatched (iN kb) (iN nb) kcnt ksts ncnt nsts fow place limit full b (iN (32 * P + 3)) (iN i) (iN (32 * W + 2)) = q_e4 (q_nL nb N) r' ∧ q_C (q_nL nb N) (nb + N.flatten.length) false b (q_bx (q_lkE nm (q_bx (q_rn 0 (q_mi p B 0))) (q_ps D))) r' := by
  have N2 := h.2.2.2.1.2.1
  have N5 := h.2.2.2.2.1
  have N6 := h.2.2.2.2.2
  have F2 := hb.2.2.2.1.2.1
  have F5 := hb.2.2.2.2.1
  obtain ⟨n1, n2, n3, n4⟩ := c_next (place := place) (limit := limit) (full := full) h
  obtain ⟨e, ps, he, rfl, o1, o2⟩ := q_okd hDo (Or.inl rfl)
  have bl := q_bxl ps
  rw [q_psb o1 (by omega)]
  have tl : (q_tx nm).length = nm.length + 5 := q_txl nm
  have ntx : q_ok 0 2 (q_tx nm) := Or.inr (Or.inr (Or.inr (Or.inr ⟨rfl, nm, rfl⟩)))
  generalize hT : nb + N.flatten.length = T at *
  generalize hLL : q_nL nb N = L at *
  obtain ⟨r, a1, a2⟩ := c_op (L := L) (t := T) (o := false) (b := b) n2 (by omega)
  have fr : ∀ j, j < T ∨ L ≤ j → r.2.2 j = b j := a2.1
  have hD' : sb r.2.2 P (q_bx ps) := sb_fr hD (fun j u v => fr j (by omega))
  have hn' : sb r.2.2 W (q_tx nm) := sb_fr hnm (fun j u v => fr j (by omega))
  have snm : sb b (W + 4) nm := by
    have s3 := sb_ap.1 hnm
    rw [q_l4l] at s3
    exact (sb_ap.1 s3.2).1
  have snm' : sb r.2.2 (W + 4) nm := sb_fr snm (fun j u v => fr j (by omega))
  have eoD : tw_ST_endOf r.2.2 (iN (32 * P + 3)) = iN (P + (q_bx ps).length) := q_eo (k := 3) hDo hD' (by omega)
  have eoN : tw_ST_endOf r.2.2 (iN (32 * W + 2)) = iN (W + (q_tx nm).length) := q_eo (k := 2) ntx hn' (by omega)
  have plD : tw_ST_placeOf (iN (32 * P + 3)) = iN P := q_p (k := 3) (by omega) (by decide)
  have plN : tw_ST_placeOf (iN (32 * W + 2)) = iN W := q_p (k := 2) (by omega) (by decide)
  have fi : tw_ST_find r.2.2 (iN (32 * P + 3)) (iN (W + 4)) (iN (W + 4 + nm.length)) = q_fv (P + 4) (q_fn nm ps) := q_fi (x := nm) (k := 3) (Or.inl rfl) hD' o1 (by omega) (by omega) snm' (by omega)
  have hen : sb b (P + 4) (q_en ps) := (sb_bx hD).2.1
  unfold tw_FI_writeMatched
  rw [n1, q_tp3]
  try dsimp only
  rw [a1, q_tp5]
  try dsimp only
  rw [eoD, eoN, plD, plN, show iN W + 4 = iN (W + 4) from iN_a W 4, show iN P + 4 = iN (P + 4) from iN_a P 4, iN_s1 (by omega), iN_s1 (by omega), show W + (q_tx nm).length - 1 = W + 4 + nm.length by omega, fi]
  unfold q_lkE
  cases hq : q_fn nm ps with
  | none =>
    obtain ⟨r1, b1, b2⟩ := c_cp (L := L) (t := r.1) (a := P + 4) (o := r.2.1) (b := r.2.2) (l := q_en ps) a2.2.2.1 (by omega) (sb_fr hen (fun j u v => fr j (by omega))) (by omega)
    have W1 := q_Ca a2 b2
    obtain ⟨r2, c1, c2⟩ := c_nm (L := L) (t := r1.1) (a := W + 4) (o := r1.2.1) (b := r1.2.2) (k := 4) (l := nm) b2.2.2.1 (by omega) (sb_fr snm (fun j u v => W1.1 j (by omega))) (by omega) (by have := W1.2.1; omega)
    have W2 := q_Ca W1 c2
    obtain ⟨r3, d1, d2⟩ := c_fwr (L := L) (t := r2.1) (kb := kb) (i := i) (o := r2.2.1) (b := r2.2.2) (p := p) n4 (by have := W2.2.1; omega) c2.2.2.1 (by have := W2.2.1; omega) (q_bef hb (fun j u v => W2.1 j (by omega))) hp
    have W3 := q_Ca W2 d2
    rw [show [0, 0, 0, 0] ++ q_en ps ++ ((4 : UInt8) :: (nm ++ [0])) ++ q_bx (q_rn 0 (q_mi p B 0)) = [0, 0, 0, 0] ++ q_en (ps ++ [(4, nm, q_bx (q_rn 0 (q_mi p B 0)))]) by rw [q_ena]; show _ = [0, 0, 0, 0] ++ (q_en ps ++ (q_e1 (4, nm, q_bx (q_rn 0 (q_mi p B 0))) ++ [])); unfold q_e1; simp [List.append_assoc]] at W3
    obtain ⟨r4, f1, f2⟩ := c_cls (L := L) (t := T) (o := false) (b := b) (by omega) W3
    rw [show q_fv (P + 4) none = 0 from rfl, if_pos (show (0 : Int32) = 0 from rfl), show P + (q_bx ps).length - 1 = P + 4 + (q_en ps).length by omega, b1, q_t4e, show (4 : Int32) = iN (4 : UInt8).toNat from rfl, c1, q_t4e, d1, q_t4e, if_pos (show (0 : Int32) = 0 from rfl), f1, q_t4e]
    exact ⟨r4, rfl, f2⟩
  | some y =>
    obtain ⟨g1, g2, a, c, g3, g4⟩ := q_fnm (o := y.1) (y := y.2) hq
    have ye := q_e1l y.2
    have enl : (q_en ps).length = (q_en a).length + ((q_e1 y.2).length + (q_en c).length) := by
      conv => lhs; rw [g3]
      rw [q_ena, q_enc, List.length_append, List.length_append]
    have sa : sb b (P + 4) (q_en a) ∧ sb b (P + 4 + (q_en a).length) (q_e1 y.2) ∧ sb b (P + 4 + (q_en a).length + (q_e1 y.2).length) (q_en c) := by
      have hen' := hen
      rw [g3, q_ena, q_enc] at hen'
      have s1 := sb_ap.1 hen'
      have s2 := sb_ap.1 s1.2
      exact ⟨s1.1, s2.1, s2.2⟩
    obtain ⟨ym, yo⟩ := o1 y.2 g1
    have ky := (q_okn yo).1
    have fv : q_fv (P + 4) (some y) = iN (32 * (P + 4 + y.1 + y.2.2.1.length + 2) + y.2.1.toNat) := rfl
    have nz : ¬ q_fv (P + 4) (some y) = 0 := by
      rw [fv]
      simp (disch := omega) only [i_0, iN_a, iN_c, iN_le, iN_lt, iN_eq, iN_i]
      omega
    have plY : tw_ST_placeOf (q_fv (P + 4) (some y)) = iN (P + 4 + y.1 + y.2.2.1.length + 2) := by
      rw [fv]
      exact q_p (by omega) ky
    obtain ⟨r1, b1, b2⟩ := c_cp (L := L) (t := r.1) (a := P + 4) (o := r.2.1) (b := r.2.2) (l := q_en a) a2.2.2.1 (by omega) (sb_fr sa.1 (fun j u v => fr j (by omega))) (by omega)
    have W1 := q_Ca a2 b2
    obtain ⟨r2, c1, c2⟩ := c_nm (L := L) (t := r1.1) (a := W + 4) (o := r1.2.1) (b := r1.2.2) (k := 4) (l := nm) b2.2.2.1 (by omega) (sb_fr snm (fun j u v => W1.1 j (by omega))) (by omega) (by have := W1.2.1; omega)
    have W2 := q_Ca W1 c2
    obtain ⟨r3, d1, d2⟩ := c_fwr (L := L) (t := r2.1) (kb := kb) (i := i) (o := r2.2.1) (b := r2.2.2) (p := p) n4 (by have := W2.2.1; omega) c2.2.2.1 (by have := W2.2.1; omega) (q_bef hb (fun j u v => W2.1 j (by omega))) hp
    have W3 := q_Ca W2 d2
    have eoY : tw_ST_endOf r3.2.2 (q_fv (P + 4) (some y)) = iN (P + 4 + (q_en a).length + (q_e1 y.2).length) := by
      rw [fv, q_eo yo (sb_fr (show sb b (P + 4 + y.1 + y.2.2.1.length + 2) y.2.2.2 by rw [g4]; exact (sb_e1 sa.2.1).2.2.2) (fun j u v => W3.1 j (by omega))) (by omega)]
      exact congrArg iN (by omega)
    obtain ⟨r4, f1, f2⟩ := c_cp (L := L) (t := r3.1) (a := P + 4 + (q_en a).length + (q_e1 y.2).length) (o := r3.2.1) (b := r3.2.2) (l := q_en c) d2.2.2.1 (by omega) (sb_fr sa.2.2 (fun j u v => W3.1 j (by omega))) (by omega)
    have W4 := q_Ca W3 f2
    have mr := q_mr1 (x := nm) (z := (4, q_bx (q_rn 0 (q_mi p B 0)))) (f := none) (o2.1 rfl) g3 g2
    have r1y : q_r1 nm (4, q_bx (q_rn 0 (q_mi p B 0))) none y.2 = (4, nm, q_bx (q_rn 0 (q_mi p B 0))) := by
      unfold q_r1
      rw [if_pos g2, g2]
    rw [r1y] at mr
    dsimp only
    rw [mr]
    rw [show [0, 0, 0, 0] ++ q_en a ++ ((4 : UInt8) :: (nm ++ [0])) ++ q_bx (q_rn 0 (q_mi p B 0)) ++ q_en c = [0, 0, 0, 0] ++ q_en (a ++ (4, nm, q_bx (q_rn 0 (q_mi p B 0))) :: c) by rw [q_ena, q_enc]; unfold q_e1; simp [List.append_assoc]] at W4
    obtain ⟨r5, x1, x2⟩ := c_cls (L := L) (t := T) (o := false) (b := b) (by omega) W4
    rw [if_neg nz, plY, show (2 : Int32) = iN 2 from rfl, iN_s (by omega), iN_s (by omega), show W + 4 + nm.length - (W + 4) = nm.length by omega, iN_s (by omega), show P + 4 + y.1 + y.2.2.1.length + 2 - 2 - nm.length = P + 4 + (q_en a).length by rw [g2, g4]; omega, b1, q_t4e, show (4 : Int32) = iN (4 : UInt8).toNat from rfl, c1, q_t4e, d1, q_t4e, if_neg nz, eoY, show P + (q_bx ps).length - 1 = P + 4 + (q_en a).length + (q_e1 y.2).length + (q_en c).length by omega, f1, q_t4e, x1, q_t4e]
    exact ⟨r5, rfl, x2⟩
