/-! the pure part: the class writes one unwound document -/
theorem c_full {fbase nbase fcnt ncnt pcnt x5 x6 x8 place limit : Int32} {fsts nsts pst pen pho : Nat → Int32} {b : Nat → UInt8} : ∀ (n : Nat) (x9 : Int32), tw_SH_writeUnwound_h151 fbase nbase fcnt fsts ncnt nsts pcnt pst pen pho x5 x6 x8 n x9 place limit true b = (place, limit, true, b) := by
  intro n
  induction n with
  | zero => exact fun _ => rfl
  | succ n ih =>
    intro x9
    unfold tw_SH_writeUnwound_h151
    split
    · rfl
    · split
      · rfl
      · exact ih _
theorem q_dlt {a c Z : Nat} (h : c ≤ a) : iN a - iN (Z + c) + iN Z = iN (a - c) := by
  have e : iN a = iN (a - c) + iN c := by
    rw [iN_a]
    exact congrArg iN (by omega)
  rw [e, ← iN_a Z c]
  generalize iN (a - c) = x
  generalize iN c = y
  generalize iN Z = u
  grind
theorem c_lln {b : Nat → UInt8} {pst pen pix : Nat → Int32} {x nm : List UInt8} {xs : List (List UInt8)} (hpa : q_pa b pst pen pix (x :: xs)) (h8 : xs.length + 1 ≤ 8) (hn : (x :: xs).getLast? = some nm) : tw_PA_lengthOfLastName (iN (xs.length + 1)) pst pen = iN nm.length := by
  rw [List.getLast?_eq_getElem?, List.length_cons, Nat.add_sub_cancel] at hn
  obtain ⟨a, p1, p2, _⟩ := hpa _ _ hn
  unfold tw_PA_lengthOfLastName
  rw [if_neg (by simp (disch := omega) only [i_0, iN_a, iN_c, iN_le, iN_lt, iN_eq, iN_i]; omega), if_neg (by simp (disch := omega) only [i_8, iN_a, iN_c, iN_le, iN_lt, iN_eq, iN_i]; omega), iN_s1 (by omega), Nat.add_sub_cancel, iN_c (by omega), p1, p2, iN_s (by omega)]
  exact congrArg iN (by omega)
theorem c_wu {b : Nat → UInt8} {fb nb k A Z d dz : Nat} {fcnt ncnt place limit : Int32} {full : Bool} {fsts nsts pst pen pix pho : Nat → Int32} {F N : List (List UInt8)} {D x : List UInt8} {xs : List (List UInt8)} {ts : List Nat} {w z : q_V} (hb : q_be b fb fcnt fsts F) (h : q_be b nb ncnt nsts N) (hd : fb + 40000 ≤ nb ∨ nb + 40000 ≤ fb) (hk : F[k]? = some D) (hpa : q_pa b pst pen pix (x :: xs)) (h8 : xs.length + 1 ≤ 8)
    (hdn : q_dn (x :: xs) (fb + q_pf F k) (3, D) = some (ts, A, w)) (hpho : ∀ i q, ts[i]? = some q → pho i = iN q) (hw : q_ok d w.1 w.2) (hzo : q_ok dz z.1 z.2) (hz : sb b Z z.2) (hZ1 : fb + q_pf F k ≤ Z) (hZ2 : Z + z.2.length ≤ fb + q_pf F k + D.length) (hzw : z.2.length ≤ w.2.length) :
    ∃ r, tw_SH_writeUnwound (iN fb) (iN nb) fcnt fsts ncnt nsts (iN (xs.length + 1)) pst pen pho place limit full b (iN k) (iN (32 * A + w.1.toNat)) (iN (32 * Z + z.1.toNat)) = (iN r.1, iN (q_nL nb N), r.2.1, r.2.2) ∧ q_C (q_nL nb N) (nb + N.flatten.length) false b (q_rpl z (x :: xs) D) r := by
  obtain ⟨d1, d2, d3, d4⟩ := q_bed hb hk
  have kl := (List.getElem?_eq_some_iff.1 hk).1
  have F1 := hb.2.2.2.1.1
  have F2 := hb.2.2.2.1.2.1
  have F3 := hb.2.2.2.2.1
  have F4 := hb.2.2.2.2.2
  have N3 := h.2.2.2.2.1
  obtain ⟨n1, n2, n3, n4⟩ := c_next (place := place) (limit := limit) (full := full) h
  obtain ⟨pre, nm, post, g1, g2, g3, g4⟩ := q_ctx xs x _ 16 D ts d2 d3 hdn
  have len := q_rsl (z := z) xs x _ 16 D ts d2 d3 hdn
  have kw := (q_okn hw).1
  have kz := (q_okn hzo).1
  generalize hP : fb + q_pf F k = P at *
  have Dl : D.length = pre.length + (nm.length + w.2.length + 2) + post.length := by
    rw [g2]
    simp only [List.length_append, List.length_cons]
    omega
  have d1' := d1
  rw [g2, List.append_assoc] at d1'
  have s1 := sb_ap.1 d1'
  have s2 := sb_ap.1 s1.2
  have s3 := sb_ap.1 (show sb b (P + pre.length + 1) (nm ++ (0 :: w.2)) from s2.1.2)
  have sw : sb b A w.2 := by
    rw [g3, show P + pre.length + nm.length + 2 = P + pre.length + 1 + nm.length + 1 by omega]
    exact s3.2.2
  have s0 : sb b (P + pre.length + 1) (nm ++ [0]) := sb_ap.2 ⟨s3.1, s3.2.1, trivial⟩
  have sp : sb b (A + w.2.length) post := by
    have q := s2.2
    rw [show P + pre.length + (w.1 :: (nm ++ 0 :: w.2)).length = A + w.2.length by simp only [List.length_append, List.length_cons]; omega] at q
    exact q
  generalize hT : nb + N.flatten.length = T at *
  generalize hL : q_nL nb N = L at *
  have sep : ∀ j, P ≤ j → j < P + D.length → j < T ∨ L ≤ j := by
    intro j u v
    omega
  obtain ⟨r1, e1, c1⟩ := c_cp (L := L) (t := T) (a := P) (o := false) (b := b) (l := pre) n2 (by omega) s1.1 (by omega)
  obtain ⟨r2, e2, c2⟩ := c_oc (L := L) (t := r1.1) (o := r1.2.1) (b := r1.2.2) (x := iN z.1.toNat) c1.2.2.1 (by omega)
  rw [q_byn] at c2
  have W2 := q_Ca c1 c2
  obtain ⟨r3, e3, c3⟩ := c_cp (L := L) (t := r2.1) (a := P + pre.length + 1) (o := r2.2.1) (b := r2.2.2) (l := nm ++ [0]) c2.2.2.1 (by omega) (sb_fr s0 (fun j u v => W2.1 j (sep j (by omega) (by simp only [List.length_append, List.length_cons, List.length_nil] at v; omega)))) (by simp only [List.length_append, List.length_cons, List.length_nil]; omega)
  have W3 := q_Ca W2 c3
  have sz3 : sb r3.2.2 Z z.2 := sb_fr hz (fun j u v => W3.1 j (sep j (by omega) (by omega)))
  obtain ⟨r4, e4, c4⟩ := c_cp (L := L) (t := r3.1) (a := Z) (o := r3.2.1) (b := r3.2.2) (l := z.2) c3.2.2.1 (by omega) sz3 (by omega)
  have W4 := q_Ca W3 c4
  have sw4 : sb r4.2.2 A w.2 := sb_fr sw (fun j u v => W4.1 j (sep j (by omega) (by omega)))
  obtain ⟨r5, e5, c5⟩ := c_cp (L := L) (t := r4.1) (a := A + w.2.length) (o := r4.2.1) (b := r4.2.2) (l := post) c4.2.2.1 (by omega) (sb_fr sp (fun j u v => W4.1 j (sep j (by omega) (by omega)))) (by omega)
  have W5 := q_Ca W4 c5
  rw [show pre ++ [z.1] ++ (nm ++ [0]) ++ z.2 ++ post = q_spl z (x :: xs) D by rw [g4 z]; simp [List.append_assoc]] at W5
  have eA : iN (P + pre.length + 1 + (nm ++ [0]).length) = iN A := congrArg iN (by simp only [List.length_append, List.length_cons, List.length_nil]; omega)
  rw [eA] at e3
  unfold tw_SH_writeUnwound
  rw [n1, q_tp3]
  dsimp only
  rw [q_bes hb (by omega), show iN k + 1 = iN (k + 1) from iN_a k 1, q_bes hb (by omega), q_pfs hk, show fb + (q_pf F k + D.length) = P + D.length by omega, hP, show tw_ST_placeOf (iN (32 * A + w.1.toNat)) = iN A from q_p (by omega) kw, show tw_ST_placeOf (iN (32 * Z + z.1.toNat)) = iN Z from q_p (by omega) kz, show tw_ST_kindOf (iN (32 * Z + z.1.toNat)) = iN z.1.toNat from q_k (by omega) kz, c_lln hpa h8 g1, iN_s (by omega), show (2 : Int32) = iN 2 from rfl, iN_s (by omega), show A - nm.length - 2 = P + pre.length by omega, e1, q_t4e, e2, q_t4e, show iN (P + pre.length) + 1 = iN (P + pre.length + 1) from iN_a _ 1, e3, q_t4e, q_eo hzo sz3 (by omega), e4, q_t4e, q_eo hw sw4 (by omega), show P + D.length = A + w.2.length + post.length by omega, e5, q_t4e, q_eo hw sw (by omega), q_eo hzo hz (by omega), iN_s (by omega), show A + w.2.length - A = w.2.length by omega, q_dlt hzw]
  obtain ⟨v1, v2, v3, v4, v5⟩ := W5
  by_cases fit : T + (q_spl z (x :: xs) D).length ≤ L
  rotate_left
  · have ho := v5 (fun q => fit q.2)
    rw [ho, c_full]
    refine ⟨(r5.1, true, r5.2.2), rfl, v1, v2, v3, fun q => ?_, fun _ => rfl⟩
    exact absurd q.2 (by rw [len]; exact fit)
  · obtain ⟨u1, u2, u3⟩ := v4 ⟨rfl, fit⟩
    rw [u2]
    obtain ⟨b', k1, k2, k3⟩ := c_rz (fbase := iN fb) (nbase := iN nb) (fcnt := fcnt) (ncnt := ncnt) (fsts := fsts) (nsts := nsts) (pst := pst) (pen := pen) (pho := pho) (z := z) (w := w) (A := A) (P0 := P) (T := T) (t := r5.1) (L := L) (m := xs.length + 1) (dl := w.2.length - z.2.length) (by omega) v3 h8 (by omega) (by omega) (by omega) xs x 0 (((8 : Int32).toInt - (0 : Int32).toInt).toNat + 1) P 16 T D ts r5.2.2 d2 d3 hdn (fun i q hi => by rw [Nat.zero_add]; exact hpho i q hi) (by omega) (by rw [show ((8 : Int32).toInt - (0 : Int32).toInt).toNat + 1 = 9 from rfl]; omega) (sb_fr d1 (fun j u v => v1 j (sep j u v))) (by omega) rfl (Nat.le_refl _) u3 fit (by omega)
    refine ⟨(r5.1, false, b'), k1, fun j hj => ?_, v2, v3, fun _ => ⟨?_, rfl, k2⟩, fun q => ?_⟩
    · show b' j = b j
      rw [k3 j (by omega), v1 j hj]
    · show r5.1 = _
      rw [u1, len]
    · exact absurd ⟨rfl, by rw [len]; exact fit⟩ q
