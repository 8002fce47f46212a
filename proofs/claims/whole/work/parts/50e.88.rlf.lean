/-! the pure part: the reference's $lookup: the row of what belongs -/
abbrev q_O6 : Type := Option (Int32 × Bool × Int32 × (Nat → Int32) × (Nat → Int32) × (Nat → Int32))
theorem q_enB (A : List q_V) (z : q_V) : ([0, 0, 0, 0] : List UInt8) ++ q_en (q_rn 0 A) ++ [z.1] ++ (q_dg A.length ++ [0]) ++ z.2 = [0, 0, 0, 0] ++ q_en (q_rn 0 (A ++ [z])) := q_enA A z
theorem r_37 {fu G t P s2 : Nat} {o : Bool} {x4 : Int32} {dcs tot frm siz st0 : Nat → Int32} {C : Int32 → Int32 → Int32 → Bool → Int32 → (Nat → Int32) → (Nat → Int32) → (Nat → Int32) → q_O6} {B xs ys : List (List UInt8)} {D : List UInt8} (hf : 60000 ≤ fu) (hG : 80000 ≤ G) (hG2 : G ≤ 120000) (ht : G ≤ t) (hb : q_rb st0 1 dcs tot frm siz B) (hy : ∀ x ∈ ys, q_gs x) (hy0 : ys ≠ []) (hy8 : ys.length ≤ 8) (hsq : q_sq st0 s2 ys) (hs2 : 128100 ≤ s2) (hD : sm st0 P D) (hDo : q_ok 16 3 D) (hDl : D.length ≤ 2000) (hP : P + D.length ≤ 80000) (hl1 : (q_l1 (q_lD xs D)).length ≤ 29500) :
    ∀ (m j n : Nat) (A : List q_V) (r : q_R) (lvs : Int32) (lkd lat : Nat → Int32), j + m = B.length → m < n → A.length ≤ j → q_la2 lkd lat 0 P (q_l1 (q_lD xs D)) → q_W G 2001 t o st0 ([0, 0, 0, 0] ++ q_en (q_rn 0 A)) r →
    ∃ x5' lvs' lkd' lat' r', tw_MO_found_h37 fu (iN G) (iN 2001) dcs frm siz C (iN (q_l1 (q_lD xs D)).length) (iN s2) x4 n (iN A.length) (iN (200 + j)) (iN r.1) r.2.1 lvs r.2.2 lkd lat = C x5' (iN (200 + B.length)) (iN r'.1) r'.2.1 lvs' r'.2.2 lkd' lat' ∧ q_la2 lkd' lat' 0 P (q_l1 (q_lD xs D)) ∧ q_W G 2001 t o st0 ([0, 0, 0, 0] ++ q_en (q_rn 0 (A ++ q_mi (fun d => q_blg xs ys D (B.getD d [])) B j))) r' := by
  have F1 := hb.2.2.2.2.1
  have F2 := hb.2.2.2.2.2.1
  have dc : dcs (1 : Int32).toNatClampNeg = iN B.length := hb.1
  intro m
  induction m with
  | zero =>
    intro j n A r lvs lkd lat hj hn hA hla hr
    obtain ⟨n, rfl⟩ : ∃ m, n = m + 1 := ⟨n - 1, by omega⟩
    have : j = B.length := by omega
    subst this
    unfold tw_MO_found_h37
    rw [dc, show (200 : Int32) + iN B.length = iN (200 + B.length) from iN_a 200 _, if_pos (Int32.le_refl _), q_mie, List.append_nil]
    exact ⟨_, _, _, _, r, rfl, hla, hr⟩
  | succ m ih =>
    intro j n A r lvs lkd lat hj hn hA hla hr
    obtain ⟨n, rfl⟩ : ∃ m, n = m + 1 := ⟨n - 1, by omega⟩
    have jl : j < B.length := by omega
    have r2 := hr.2.1
    have r3 := hr.2.2.1
    have fr : ∀ x, x < t ∨ G + 2001 ≤ x → r.2.2 x = st0 x := hr.1
    have hk : B[j]? = some B[j] := List.getElem?_eq_getElem jl
    have hb' : q_rb r.2.2 1 dcs tot frm siz B := q_rbf hb (fun x u v => fr x (by omega))
    obtain ⟨d1, d2, d3, d4⟩ := q_rbd hb' hk
    obtain ⟨f1, f2⟩ := hb.2.2.1 j _ hk
    simp only [Nat.mul_one] at f1 f2 d1 d4
    have gd := q_gdd hk
    have hsq' : q_sq r.2.2 s2 ys := by
      intro q
      obtain ⟨a1, a2, a3, a4⟩ := hsq q
      exact ⟨sm_fr a1 (fun x u v => fr x (by omega)), a2, a3, a4⟩
    obtain ⟨lkd1, lat1, v1, v2, v3, v4, v5⟩ := r_lv1 (fu := fu) (c := 30000) (lkd := lkd) (lat := lat) (by omega) (Or.inr rfl) (by omega) hy hy0 hy8 hsq' d2 d1 d3
    -- the leaves of the document, at least one
    have lv : ∃ lkd2 lat2, (∀ x, x < 30000 → lkd2 x = lkd x ∧ lat2 x = lat x) ∧ q_la2 lkd2 lat2 30000 (40000 + q_pf B j) (q_l1 (q_lD ys B[j])) ∧ ∀ (C' : Int32 → Bool → Int32 → (Nat → Int32) → (Nat → Int32) → (Nat → Int32) → q_O6) (y1 y3 y4 y5 y6 top : Int32) (ovr : Bool) (stt : Nat → Int32), tw_MO_found_r72 fu (iN G) (iN 2001) dcs frm siz C' y1 y3 y4 y5 y6 top ovr (iN (30000 + (q_lD ys B[j]).length)) stt lkd1 lat1 = C' top ovr (iN (30000 + (q_l1 (q_lD ys B[j])).length)) stt lkd2 lat2 := by
      by_cases c : q_lD ys B[j] = []
      · have l1 : q_l1 (q_lD ys B[j]) = [q_ms] := if_pos c
        refine ⟨upd lkd1 30000 0, upd lat1 30000 0, fun x hx => ?_, ?_, fun C' y1 y3 y4 y5 y6 top ovr stt => ?_⟩
        · rw [q_upn (by omega), q_upn (by omega)]
          exact v2 x hx
        · rw [l1]
          intro i z hz
          have i0 : i = 0 := by
            have := (List.getElem?_eq_some_iff.1 hz).1
            rw [List.length_singleton] at this
            omega
          subst i0
          cases hz
          rw [Nat.add_zero, q_upe, q_upe]
          exact ⟨rfl, rfl⟩
        · unfold tw_MO_found_r72
          rw [l1, c, List.length_nil, Nat.add_zero, if_pos (show iN 30000 = 30000 from rfl), v3 c, obs3]
          rfl
      · have l1 : q_l1 (q_lD ys B[j]) = q_lD ys B[j] := if_neg c
        have nz : 0 < (q_lD ys B[j]).length := List.length_pos_iff.2 c
        refine ⟨lkd1, lat1, v2, by rw [l1]; exact v4 c, fun C' y1 y3 y4 y5 y6 top ovr stt => ?_⟩
        unfold tw_MO_found_r72
        rw [l1, if_neg (by simp (disch := omega) only [i_30000, iN_a, iN_c, iN_le, iN_lt, iN_eq, iN_i]; omega)]
    obtain ⟨lkd2, lat2, w1, w2, w3⟩ := lv
    have hla2 : q_la2 lkd2 lat2 0 P (q_l1 (q_lD xs D)) := by
      intro i z hz
      have il := (List.getElem?_eq_some_iff.1 hz).1
      rw [Nat.zero_add, (w1 i (by omega)).1, (w1 i (by omega)).2]
      have := hla i z hz
      rwa [Nat.zero_add] at this
    have ll := q_l1l (q_lD ys B[j])
    have bel := r_bel (st := r.2.2) hf hla2 hl1 (fun z hz => q_lRl hDo hDl (sm_fr hD (fun x u v => fr x (by omega))) (by omega) hz) w2 (by omega) (fun z hz => q_lRl d2 d3 d1 (by omega) hz)
    have blg : (q_l1 (q_lD xs D)).any (fun z => (q_l1 (q_lD ys B[j])).any (fun w => decide (q_ov2 20 (q_nuv z) (q_nuv w) = 0))) = q_blg xs ys D (B.getD j []) := by
      unfold q_blg
      rw [gd, q_l1w, q_l1w, List.any_map]
      congr 1
      funext z
      show _ = ((q_l1 (q_lD ys B[j])).map q_nuv).any _
      rw [List.any_map]
      rfl
    rw [blg] at bel
    unfold tw_MO_found_h37
    rw [dc, show (200 : Int32) + iN B.length = iN (200 + B.length) from iN_a 200 _, if_neg (by simp (disch := omega) only [iN_a, iN_c, iN_le, iN_lt, iN_eq, iN_i]; omega), if_pos (by simp (disch := omega) only [i_0, i_400, iN_a, iN_c, iN_le, iN_lt, iN_eq, iN_i]; omega), iN_c (by omega), f1, f2, show (30000 : Int32) = iN 30000 from rfl, v1, obs3, w3]
    try dsimp only
    rw [bel, obs1, q_mis _ jl, show iN (200 + j) + 1 = iN (200 + (j + 1)) by rw [← Nat.add_assoc]; exact iN_a _ 1]
    try dsimp only
    cases hq : q_blg xs ys D (B.getD j []) with
    | false =>
      rw [if_pos (show b2i false = 0 from rfl), if_neg (show ¬ false = true by decide)]
      exact ih (j + 1) n A r _ lkd2 lat2 (by omega) (by omega) (by omega) hla2 hr
    | true =>
      obtain ⟨s1, a1, a2⟩ := r_wr (fu := fu) (g := G) (m := 2001) (t := r.1) (o := r.2.1) (st := r.2.2) (y := 3) (by omega) (by omega) (by omega)
      obtain ⟨s3, b1, b2⟩ := r_pd (fu := fu) (g := G) (m := 2001) (t := s1.1) (v := A.length) (o := s1.2.1) (st := s1.2.2) (by omega) (by omega) (by have := a2.2.1; omega) a2.2.2.1
      have t2 := b2.2.1
      have t1 := a2.2.1
      obtain ⟨s4, c1, c2⟩ := r_cp (fu := fu) (g := G) (m := 2001) (a := 40000 + q_pf B j) (t := s3.1) (o := s3.2.1) (st := s3.2.2) (l := B[j]) (by omega) (sm_fr d1 (fun x u v => by rw [b2.1 x (by omega), a2.1 x (by omega)])) (by omega) (by omega) (by omega) b2.2.2.1 (by omega)
      have W := q_Wa (q_Wa (q_Wa hr a2) b2) c2
      rw [show ([(3 : UInt8)] : List UInt8) = [((3 : UInt8), B[j]).1] from rfl, show (B[j] : List UInt8) = ((3 : UInt8), B[j]).2 from rfl, q_enA] at W
      rw [if_neg (show ¬ b2i true = 0 by decide), if_pos (show true = true from rfl), show (3 : Int32) = iN (3 : UInt8).toNat from rfl, a1, q_o3e, b1, q_o3e, c1, q_o3e, show iN A.length + 1 = iN (A ++ [((3 : UInt8), B[j])]).length by rw [List.length_append, List.length_singleton]; exact iN_a _ 1]
      obtain ⟨x5', lvs', lkd', lat', r', u1, u2, u3⟩ := ih (j + 1) n (A ++ [(3, B[j])]) s4 _ lkd2 lat2 (by omega) (by omega) (by rw [List.length_append, List.length_singleton]; omega) hla2 W
      rw [List.append_assoc] at u3
      rw [gd]
      exact ⟨x5', lvs', lkd', lat', r', u1, u2, u3⟩
theorem r_ts {fu e d : Nat} {st : Nat → Int32} {x : q_P} {t : List UInt8} (h : sm st e (q_e1 x)) (hm : (0 : UInt8) ∉ x.2.1) (ex : x.2.2 = q_tx t) (he : e + (q_e1 x).length ≤ 136400) (hl : (q_e1 x).length ≤ 2005) (hf : 2500 ≤ fu) : tw_MO_valueOf fu st (iN e) = some (iN (e + x.2.1.length + 2)) ∧ tw_MO_textSize fu st (iN e) = some (iN t.length) ∧ sm st (e + x.2.1.length + 2 + 4) (t ++ [0]) := by
  have e1 := q_e1l x
  have lx : x.2.2.length = t.length + 5 := by rw [ex, q_txl]
  have s1 := sm_e1 h
  have s2 := s1.2.2.2
  rw [ex] at s2
  have s3 := sm_ap.1 s2
  rw [q_l4l] at s3
  have vo := r_vo (fu := fu) h hm (by omega) (by omega)
  refine ⟨vo, ?_, s3.2⟩
  unfold tw_MO_textSize
  rw [vo, obs1, r_wh s3.1 (by omega) (by omega), obs1, iN_s1 (by omega), Nat.add_sub_cancel]
theorem r_fd {fu G t P s2 ez dz : Nat} {o : Bool} {dcs tot frm siz st0 : Nat → Int32} {B xs ys : List (List UInt8)} {D tz pre : List UInt8} {z : q_P} {r : q_R} {lvs : Int32} {lkd lat : Nat → Int32} (hf : 60000 ≤ fu) (hG : 80000 ≤ G) (hG2 : G ≤ 120000) (ht : G ≤ t) (hb : q_rb st0 1 dcs tot frm siz B) (hy : ∀ x ∈ ys, q_gs x) (hy0 : ys ≠ []) (hy8 : ys.length ≤ 8) (hsq : q_sq st0 s2 ys) (hs2 : 128100 ≤ s2) (hD : sm st0 P D) (hDo : q_ok 16 3 D) (hDl : D.length ≤ 2000) (hP : P + D.length ≤ 80000) (hl1 : (q_l1 (q_lD xs D)).length ≤ 29500) (hz : sm st0 ez (q_e1 z)) (hzm : (0 : UInt8) ∉ z.2.1) (ezt : z.2.2 = q_tx tz) (hze : ez + (q_e1 z).length ≤ 136400) (hzl : (q_e1 z).length ≤ 2000) (hzg : 128100 ≤ ez) (hla : q_la2 lkd lat 0 P (q_l1 (q_lD xs D))) (hr : q_W G 2001 t o st0 pre r) :
    ∃ lvs' lkd' lat' r', tw_MO_found fu (iN G) (iN 2001) dcs frm siz (iN r.1) r.2.1 lvs r.2.2 lkd lat (iN (q_l1 (q_lD xs D)).length) (iN ez) (iN s2) = some (iN r'.1, r'.2.1, lvs', r'.2.2, lkd', lat') ∧ q_la2 lkd' lat' 0 P (q_l1 (q_lD xs D)) ∧ q_W G 2001 t o st0 (pre ++ q_e1 (4, tz, q_bx (q_rn 0 (q_mi (fun d => q_blg xs ys D (B.getD d [])) B 0)))) r' := by
  have F1 := hb.2.2.2.2.1
  have e1 := q_e1l z
  have lz : z.2.2.length = tz.length + 5 := by rw [ezt, q_txl]
  have r2 := hr.2.1
  have r3 := hr.2.2.1
  obtain ⟨s1, a1, a2⟩ := r_wr (fu := fu) (g := G) (m := 2001) (t := r.1) (o := r.2.1) (st := r.2.2) (y := 4) (by omega) (by omega) (by omega)
  have W1 := q_Wa hr a2
  have f1 : ∀ x, x < t ∨ G + 2001 ≤ x → s1.2.2 x = st0 x := W1.1
  obtain ⟨v1, v2, v3⟩ := r_ts (d := 0) (fu := fu) (sm_fr hz (fun x u v => f1 x (by omega))) hzm ezt hze (by omega) (by omega)
  have t1 := W1.2.1
  obtain ⟨s3, b1, b2⟩ := r_cp (fu := fu) (g := G) (m := 2001) (a := ez + z.2.1.length + 2 + 4) (t := s1.1) (o := s1.2.1) (st := s1.2.2) (l := tz ++ [0]) (by omega) v3 (by rw [List.length_append, List.length_singleton]; omega) (by omega) (by omega) a2.2.2.1 (by rw [List.length_append, List.length_singleton]; omega)
  have W2 := q_Wa W1 b2
  have t2 := W2.2.1
  obtain ⟨p, p1, p2⟩ := r_op (fu := fu) (g := G) (m := 2001) (t := s3.1) (o := s3.2.1) (st := s3.2.2) (by omega) (by omega) b2.2.2.1 (by omega)
  have f3 : ∀ x, x < t ∨ G + 2001 ≤ x → s3.2.2 x = st0 x := W2.1
  have hsq' : q_sq s3.2.2 s2 ys := by
    intro q
    obtain ⟨a1, a2, a3, a4⟩ := hsq q
    exact ⟨sm_fr a1 (fun x u v => f3 x (by omega)), a2, a3, a4⟩
  have F2 := hb.2.2.2.2.2.1
  have H := fun C => r_37 (fu := fu) (G := G) (t := s3.1) (P := P) (s2 := s2) (o := s3.2.1) (x4 := iN p.1 - 4) (dcs := dcs) (tot := tot) (frm := frm) (siz := siz) (st0 := s3.2.2) (C := C) (B := B) (xs := xs) (ys := ys) (D := D) hf hG hG2 (by omega) (q_rbf hb (fun x u v => f3 x (by omega))) hy hy0 hy8 hsq' hs2 (sm_fr hD (fun x u v => f3 x (by omega))) hDo hDl hP hl1 B.length 0 fu [] p lvs lkd lat (by omega) (by omega) (Nat.le_refl _) hla p2
  unfold tw_MO_found
  rw [show tw_MO_write fu (iN G) (iN 2001) (iN r.1) r.2.1 r.2.2 4 = q_e3 s1 from a1, q_o3e, v1, obs1, v2, obs1, show iN (ez + z.2.1.length + 2) + 4 = iN (ez + z.2.1.length + 2 + 4) from iN_a _ 4, show iN tz.length + 1 = iN (tz ++ [0]).length by rw [List.length_append, List.length_singleton]; exact iN_a _ 1, b1, q_o3e, p1, obs4]
  obtain ⟨x5', lvs', lkd', lat', r4, u1, u2, u3⟩ := H _
  rw [List.length_nil, Nat.add_zero, show iN 0 = (0 : Int32) from rfl] at u1
  rw [show (200 : Int32) = iN 200 from rfl, u1]
  try dsimp only
  rw [List.nil_append] at u3
  obtain ⟨r5, w1, w2⟩ := r_cls (fu := fu) (a := iN p.1 - 4) (by omega) (by omega) u3 (by omega) (fun q => by
    have fit : s3.2.1 = false ∧ s3.1 + (([0, 0, 0, 0] : List UInt8) ++ q_en (q_rn 0 (q_mi (fun d => q_blg xs ys D (B.getD d [])) B 0))).length ≤ G + 2001 := by
      by_cases z : s3.2.1 = false ∧ s3.1 + (([0, 0, 0, 0] : List UInt8) ++ q_en (q_rn 0 (q_mi (fun d => q_blg xs ys D (B.getD d [])) B 0))).length ≤ G + 2001
      · exact z
      · have := u3.2.2.2.2 z
        rw [q] at this
        cases this
    rw [List.length_append] at fit
    have l4 : ([0, 0, 0, 0] : List UInt8).length = 4 := rfl
    have := (p2.2.2.2.1 ⟨fit.1, by omega⟩).1
    rw [this, show (4 : Int32) = iN 4 from rfl, iN_s (by omega)]
    exact congrArg iN (by omega))
  rw [w1, q_o3e]
  refine ⟨_, _, _, r5, rfl, u2, ?_⟩
  have W := q_Wa W2 w2
  rw [show pre ++ [(4 : UInt8)] ++ (tz ++ [0]) ++ (q_l4 ((q_en (q_rn 0 (q_mi (fun d => q_blg xs ys D (B.getD d [])) B 0))).length + 5) ++ (q_en (q_rn 0 (q_mi (fun d => q_blg xs ys D (B.getD d [])) B 0)) ++ [0])) = pre ++ q_e1 (4, tz, q_bx (q_rn 0 (q_mi (fun d => q_blg xs ys D (B.getD d [])) B 0))) by unfold q_e1 q_bx; simp] at W
  exact W
