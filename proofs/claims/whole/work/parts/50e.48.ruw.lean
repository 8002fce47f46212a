/-! the pure part: the reference's $unwind, all documents -/
theorem q_runa (N : Option (List (List UInt8))) (a c : List (List UInt8)) : q_run N (a ++ c) = q_run (q_run N a) c := List.foldl_append
theorem q_itm {w : q_V} {rs : List q_P} {d : Nat} (hw : w.1 = 4) (e : w.2 = q_bx rs) (ho : q_op d rs) (hl : (q_bx rs).length < 4294967296) : ∀ y ∈ rs, ∀ d', q_ok d' w.1 w.2 → q_ok d' y.1 y.2.2 := by
  intro y hy d' h
  rw [hw, e] at h
  obtain ⟨e2, rs', he, eb, o1, _⟩ := q_okd h (Or.inr rfl)
  have : rs = rs' := by
    rw [← q_psb ho hl, q_psb' eb o1 (by rw [← eb]; exact hl)]
  subst this
  exact q_okm (o1 y hy).2 (by omega)
theorem r_uw_h {fu s : Nat} {dcs tot frm siz : Nat → Int32} {K : Int32 → Int32 → Int32 → Int32 → Int32 → Int32 → Bool → Bool → (Nat → Int32) → (Nat → Int32) → (Nat → Int32) → q_O10} {F : List (List UInt8)} {x : List UInt8} {ys : List (List UInt8)} (hf : 2500 ≤ fu) (hs : 128100 ≤ s) (hgs : ∀ u ∈ x :: ys, q_gs u) (hlen : (x :: ys).length ≤ 8) :
    ∀ (m i n : Nat) (frs frt top bgn mst : Int32) (ovr tgr : Bool) (st ffr fsz : Nat → Int32) (N : Option (List (List UInt8))), i + m = F.length → m < n → q_sq st s (x :: ys) → q_rb st 0 dcs tot frm siz F → q_fr st frs frt top tgr ffr fsz N →
    ∃ fs ft tp bg ms ov tg st' ff fz, tw_MO_unwind_h2 fu dcs frm siz K (iN s) n (iN i) frs frt top bgn mst ovr tgr st ffr fsz = K (iN F.length) fs ft tp bg ms ov tg st' ff fz ∧ q_fr st' fs ft tp tg ff fz (q_run N ((F.drop i).flatMap (q_uw (x :: ys)))) ∧ (∀ j, j < 80000 ∨ 122001 ≤ j → st' j = st j) := by
  intro m
  induction m with
  | zero =>
    intro i n frs frt top bgn mst ovr tgr st ffr fsz N hi hn hsq hb h
    obtain ⟨n, rfl⟩ : ∃ m, n = m + 1 := ⟨n - 1, by omega⟩
    have : i = F.length := by omega
    subst this
    unfold tw_MO_unwind_h2
    rw [show dcs (0 : Int32).toNatClampNeg = iN F.length from hb.1, if_pos (Int32.le_refl _), List.drop_length]
    exact ⟨_, _, _, _, _, _, _, _, _, _, rfl, h, fun _ _ => rfl⟩
  | succ m ih =>
    intro i n frs frt top bgn mst ovr tgr st ffr fsz N hi hn hsq hb h
    obtain ⟨n, rfl⟩ : ∃ m, n = m + 1 := ⟨n - 1, by omega⟩
    have il : i < F.length := by omega
    have F1 := hb.2.2.2.2.1
    have F2 := hb.2.2.2.2.2.1
    have hk : F[i]? = some F[i] := List.getElem?_eq_getElem il
    obtain ⟨fs, ft, tp, bg, ms, ov, tg, st', ff, fz, p1, p2, p3⟩ := r_keep (bgn := bgn) (mst := mst) (ovr := ovr) hf hb h hk
    obtain ⟨d1, d2, d3, d4⟩ := q_rbd hb hk
    obtain ⟨f1, f2⟩ := hb.2.2.1 i _ hk
    rw [List.drop_eq_getElem_cons il, List.flatMap_cons, q_runa]
    generalize F[i] = D at *
    simp only [Nat.mul_zero, Nat.zero_add] at f1 f2 d1 d4
    have next : ∀ (fs ft tp bg ms : Int32) (ov tg : Bool) (st' ff fz : Nat → Int32) (M : Option (List (List UInt8))), q_fr st' fs ft tp tg ff fz M → (∀ j, j < 80000 ∨ 122001 ≤ j → st' j = st j) → ∃ fs2 ft2 tp2 bg2 ms2 ov2 tg2 st2 ff2 fz2, tw_MO_unwind_h2 fu dcs frm siz K (iN s) n (iN i + 1) fs ft tp bg ms ov tg st' ff fz = K (iN F.length) fs2 ft2 tp2 bg2 ms2 ov2 tg2 st2 ff2 fz2 ∧ q_fr st2 fs2 ft2 tp2 tg2 ff2 fz2 (q_run M ((F.drop (i + 1)).flatMap (q_uw (x :: ys)))) ∧ (∀ j, j < 80000 ∨ 122001 ≤ j → st2 j = st j) := by
      intro fs ft tp bg ms ov tg st' ff fz M hM hfr
      obtain ⟨a1, a2, a3, a4, a5, a6, a7, a8, a9, a10, b1, b2, b3⟩ := ih (i + 1) n fs ft tp bg ms ov tg st' ff fz M (by omega) (by omega) (q_sqf hsq (fun _ => hs) (fun j hj => hfr j (by omega))) (q_rbf hb (fun j u v => hfr j (by omega))) hM
      rw [show iN i + 1 = iN (i + 1) from iN_a i 1]
      exact ⟨a1, a2, a3, a4, a5, a6, a7, a8, a9, a10, b1, b2, fun j hj => (b3 j hj).trans (hfr j hj)⟩
    unfold tw_MO_unwind_h2
    rw [show dcs (0 : Int32).toNatClampNeg = iN F.length from hb.1, if_neg (by simp (disch := omega) only [iN_a, iN_c, iN_le, iN_lt, iN_eq, iN_i]; omega), if_pos (by simp (disch := omega) only [i_0, i_400, iN_a, iN_c, iN_le, iN_lt, iN_eq, iN_i]; omega), iN_c (by omega), f1]
    obtain ⟨X4, X5, w1, w2⟩ := r_w25 (fu := fu) (dcs := dcs) (frm := frm) (siz := siz) (p0 := iN s) (x2 := iN i) (frs := frs) (frt := frt) (top := top) (bgn := bgn) (mst := mst) (ovr := ovr) (tgr := tgr) (st := st) (ffr := ffr) (fsz := fsz) (K := fun (x3_16 : Int32) (x4_16 : Int32) (x5_16 : Int32) (frs_16 : Int32) (frt_16 : Int32) (top_16 : Int32) (bgn_16 : Int32) (mst_16 : Int32) (ovr_16 : Bool) (tgr_16 : Bool) (st_16 : Nat → Int32) (ffr_16 : Nat → Int32) (fsz_16 : Nat → Int32) =>
          tw_MO_unwind_r98 fu dcs frm siz (fun (frs_31 : Int32) (frt_31 : Int32) (top_31 : Int32) (bgn_31 : Int32) (mst_31 : Int32) (ovr_31 : Bool) (tgr_31 : Bool) (st_31 : Nat → Int32) (ffr_31 : Nat → Int32) (fsz_31 : Nat → Int32) =>
          tw_MO_unwind_h2 fu dcs frm siz K (iN s) n (iN i + 1) frs_31 frt_31 top_31 bgn_31 mst_31 ovr_31 tgr_31 st_31 ffr_31 fsz_31) (iN s) (iN i) x3_16 x4_16 frs_16 frt_16 top_16 bgn_16 mst_16 ovr_16 tgr_16 st_16 ffr_16 fsz_16) hf (x :: ys) fu s (q_pf F i) 16 3 D hgs d2 d1 (by omega) d3 hsq (by omega)
    rw [show (3 : Int32) = iN (3 : UInt8).toNat from rfl, show iN s = iN (q_st s (x :: ys)) from rfl] at *
    rw [w1]
    unfold tw_MO_unwind_r98 q_uw
    cases hth : q_th (x :: ys) (3, D) with
    | none =>
      dsimp only
      rw [if_neg (show ¬ (0 : Int32) = 4 by decide), if_pos (show (0 : Int32) = 0 from rfl)]
      exact next frs frt top bgn mst ovr tgr st ffr fsz N h (fun _ _ => rfl)
    | some w =>
      obtain ⟨A, A1, A2, A3, A0, A4⟩ := w2 w hth
      have kw := q_okn A4
      dsimp only
      by_cases w4 : w.1 = 4
      · have A4' := A4
        rw [w4] at A4'
        obtain ⟨e, rs, he, ew, o1, o2⟩ := q_okd A4' (Or.inr rfl)
        obtain ⟨e3, ps, he3, eD, o3, o4⟩ := q_okd d2 (Or.inl rfl)
        obtain rfl : e3 = 15 := by omega
        have wl : w.2.length = (q_bx rs).length := by rw [ew]
        have bl := q_bxl rs
        have pl := q_psl rs
        rw [ew] at A2
        subst eD
        obtain ⟨b1, b2, b3, b4, b5, b6, b7, b8, b9, b10, c1, c2, c3⟩ := r_u111 (fu := fu) (k := i) (s := s) (P := q_pf F i) (dcs := dcs) (frm := frm) (siz := siz) (K := fun (x6_30 : Int32) (frs_30 : Int32) (frt_30 : Int32) (top_30 : Int32) (bgn_30 : Int32) (mst_30 : Int32) (ovr_30 : Bool) (tgr_30 : Bool) (st_30 : Nat → Int32) (ffr_30 : Nat → Int32) (fsz_30 : Nat → Int32) =>
          tw_MO_unwind_h2 fu dcs frm siz K (iN s) n (iN i + 1) frs_30 frt_30 top_30 bgn_30 mst_30 ovr_30 tgr_30 st_30 ffr_30 fsz_30) hf (by omega) f1 hgs hlen hs d2 o3 (by omega) d3 hth rs (A + 4) fu frs frt top bgn mst ovr tgr st ffr fsz N (q_itm w4 ew o1 (by omega)) (sm_ap.1 A2).2 o1 (by omega) (by omega) (by omega) (by omega) d1 hsq h
        rw [if_pos (show iN w.1.toNat = 4 by rw [w4]; rfl), A1, r_fo A2 o1 (by omega), obs1, if_pos w4, ew, q_psb o1 (by omega)]
        obtain ⟨a1, a2, a3, a4, a5, a6, a7, a8, a9, a10, t1, t2, t3⟩ := next b1 b2 b3 b4 b5 b6 b7 b8 b9 b10 _ c2 c3
        exact ⟨a1, a2, a3, a4, a5, a6, a7, a8, a9, a10, c1.trans t1, t2, t3⟩
      rw [if_neg (fun q => w4 (by rw [show (4 : Int32) = iN 4 from rfl, iN_eq (by omega) (by omega), q_ko w.1 4 (by omega)] at q; exact q)), if_neg (by simp (disch := omega) only [i_0, iN_a, iN_c, iN_le, iN_lt, iN_eq, iN_i]; omega), if_neg w4]
      by_cases w10 : w.1 = 10
      · rw [if_pos (show iN w.1.toNat = 10 by rw [w10]; rfl), if_pos w10]
        exact next frs frt top bgn mst ovr tgr st ffr fsz N h (fun _ _ => rfl)
      · rw [if_neg (fun q => w10 (by rw [show (10 : Int32) = iN 10 from rfl, iN_eq (by omega) (by omega), q_ko w.1 10 (by omega)] at q; exact q)), if_neg w10, p1, obs10]
        exact next fs ft tp bg ms ov tg st' ff fz _ p2 p3
theorem r_uw {fu s : Nat} {dcs tot frm siz st ffr fsz : Nat → Int32} {frs frt top bgn mst : Int32} {ovr tgr : Bool} {F : List (List UInt8)} {x : List UInt8} {ys : List (List UInt8)} (hf : 2500 ≤ fu) (hs : 128100 ≤ s) (hgs : ∀ u ∈ x :: ys, q_gs u) (hlen : (x :: ys).length ≤ 8) (hsq : q_sq st s (x :: ys)) (hb : q_rb st 0 dcs tot frm siz F) (h : q_fr st frs frt top tgr ffr fsz (some [])) :
    ∃ fs ft tp bg ms ov tg st' ff fz, tw_MO_unwind fu dcs frm siz frs frt top bgn mst ovr tgr st ffr fsz (iN s) = some (fs, ft, tp, bg, ms, ov, tg, st', ff, fz) ∧ q_fr st' fs ft tp tg ff fz (q_run (some []) (F.flatMap (q_uw (x :: ys)))) ∧ (∀ j, j < 80000 ∨ 122001 ≤ j → st' j = st j) := by
  have F1 := hb.2.2.2.2.1
  obtain ⟨fs, ft, tp, bg, ms, ov, tg, st', ff, fz, g1, g2, g3⟩ := r_uw_h (fu := fu) (dcs := dcs) (tot := tot) (frm := frm) (siz := siz) (K := fun (x2_32 : Int32) (frs_32 : Int32) (frt_32 : Int32) (top_32 : Int32) (bgn_32 : Int32) (mst_32 : Int32) (ovr_32 : Bool) (tgr_32 : Bool) (st_32 : Nat → Int32) (ffr_32 : Nat → Int32) (fsz_32 : Nat → Int32) =>
      some (frs_32, frt_32, top_32, bgn_32, mst_32, ovr_32, tgr_32, st_32, ffr_32, fsz_32)) hf hs hgs hlen F.length 0 fu frs frt top bgn mst ovr tgr st ffr fsz (some []) (by omega) (by omega) hsq hb h
  rw [List.drop_zero] at g2
  exact ⟨fs, ft, tp, bg, ms, ov, tg, st', ff, fz, g1, g2, g3⟩
