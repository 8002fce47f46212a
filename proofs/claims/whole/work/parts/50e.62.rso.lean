/-! the pure part: the reference's $sort as a whole -/
abbrev q_K15 : Type := Int32 → Int32 → Int32 → Int32 → Int32 → Bool → Bool → Int32 → (Nat → Int32) → (Nat → Int32) → (Nat → Int32) → (Nat → Int32) → (Nat → Int32) → (Nat → Int32) → (Nat → Int32) → (Nat → Int32) → q_O16
theorem r_57 {fu d : Nat} {dcs frm siz st ffr fsz lkd lat kkd kat odr : Nat → Int32} {frs frt top bgn mst lvs : Int32} {ovr tgr : Bool} {x2 x3 : Int32} {K : Int32 → q_K16} {x : q_P} {c : List q_P} (hf : 2500 ≤ fu) :
    ∀ (a : List q_P) (e i n : Nat), sm st e (q_en (a ++ x :: c) ++ [0]) → q_op d (a ++ x :: c) → e + (q_en (a ++ x :: c)).length < 136400 → (q_en (a ++ x :: c)).length ≤ 2000 → a.length < n → i + a.length ≤ 1000 →
    tw_MO_sort_h57 fu dcs frm siz K x2 x3 (iN (i + a.length)) n (iN e) (iN i) frs frt top bgn mst ovr tgr lvs st ffr fsz lkd lat kkd kat odr = K (iN (e + (q_en a).length)) (iN (i + a.length)) frs frt top bgn mst ovr tgr lvs st ffr fsz lkd lat kkd kat odr := by
  intro a
  induction a with
  | nil =>
    intro e i n h ho he hl hn hi
    obtain ⟨n, rfl⟩ : ∃ m, n = m + 1 := ⟨n - 1, by omega⟩
    unfold tw_MO_sort_h57
    rw [List.length_nil, Nat.add_zero, if_pos (Int32.le_refl _)]
    rfl
  | cons y a ih =>
    intro e i n h ho he hl hn hi
    rw [List.length_cons] at hn hi
    obtain ⟨n, rfl⟩ : ∃ m, n = m + 1 := ⟨n - 1, by omega⟩
    rw [List.cons_append] at h ho he hl
    have h2 := (sm_en h).2
    have e1 := q_e1l y
    have e2 := q_enl y (a ++ x :: c)
    have pt : q_pt (e + (q_e1 y).length) (a ++ x :: c) = e + (q_e1 y).length := by
      cases a <;> rfl
    unfold tw_MO_sort_h57
    rw [List.length_cons, if_neg (by simp (disch := omega) only [iN_a, iN_c, iN_le, iN_lt, iN_eq, iN_i]; omega), r_no h ho he (by omega), obs1, pt, show iN i + 1 = iN (i + 1) from iN_a i 1]
    have := ih (e + (q_e1 y).length) (i + 1) n h2 (fun u hu => ho u (List.mem_cons_of_mem _ hu)) (by omega) (by omega) (by omega) (by omega)
    rw [show i + 1 + a.length = i + (a.length + 1) by omega] at this
    rw [this, q_enc, List.length_append, show e + (q_e1 y).length + (q_en a).length = e + ((q_e1 y).length + (q_en a).length) by omega]
theorem r_78 {fu d e : Nat} {dcs frm siz st ffr fsz lkd lat kkd kat odr : Nat → Int32} {frs frt top bgn mst lvs : Int32} {ovr tgr : Bool} {x2 x3 x4 : Int32} {K : Bool → q_K15} {x : q_P} (hf : 2500 ≤ fu) (h : sm st e (q_e1 x)) (hm : (0 : UInt8) ∉ x.2.1) (ho : q_ok d x.1 x.2.2) (hc : q_cl x.1 = 2) (he : e + (q_e1 x).length ≤ 136400) (hl : (q_e1 x).length ≤ 2000) :
    tw_MO_sort_r78 fu dcs frm siz K x2 x3 x4 (iN e) frs frt top bgn mst ovr tgr lvs st ffr fsz lkd lat kkd kat odr = K (q_key x).1 frs frt top bgn mst ovr tgr lvs st ffr fsz lkd lat kkd kat odr := by
  have el := q_e1l x
  have s1 := sm_e1 h
  unfold tw_MO_sort_r78 q_key
  dsimp only
  rw [if_pos (by simp (disch := omega) only [i_0, i_136400, iN_a, iN_c, iN_le, iN_lt, iN_eq, iN_i]; omega), r_vo h hm (by omega) (by omega), obs1, iN_c (by omega), s1.1, r_num ho (Or.inl hc) s1.2.2.2 (by omega) (by omega), obs1]
  by_cases n1 : q_nu x.1 x.2.2 = 1
  · rw [if_pos (by rw [q_lgz]; exact n1), decide_eq_true n1]
  · rw [if_neg (by rw [q_lgz]; exact n1), decide_eq_false n1]
theorem r_144z {fu n : Nat} {dcs frm siz st ffr fsz lkd lat kkd kat odr : Nat → Int32} {frs frt top bgn mst lvs : Int32} {ovr tgr : Bool} {x2 x3 x4 x7 : Int32} {u : Bool} {K : q_K16} (hn : 0 < n) (h : x2 ≤ x7) :
    tw_MO_sort_h144 fu dcs frm siz K x2 x3 x4 u n x7 frs frt top bgn mst ovr tgr lvs st ffr fsz lkd lat kkd kat odr = K x7 frs frt top bgn mst ovr tgr lvs st ffr fsz lkd lat kkd kat odr := by
  obtain ⟨n, rfl⟩ : ∃ m, n = m + 1 := ⟨n - 1, by omega⟩
  unfold tw_MO_sort_h144
  rw [if_pos h]
theorem r_144a {fu : Nat} {dcs frm siz st ffr fsz lkd lat kkd kat odr : Nat → Int32} {frs frt top bgn mst lvs : Int32} {ovr tgr : Bool} {x3 x4 : Int32} {K : q_K16} {κ : q_K} {F : List (List UInt8)} {l : List Nat} {Q : Nat → Nat → Prop} (hf : 60000 ≤ fu) (hk : q_kaR st kkd kat κ F F.length) (hF : F.length ≤ 200) (hl : l.length = F.length) (hlm : ∀ y ∈ l, y < F.length) (hQ : l.Pairwise Q) (ho : q_ar odr 0 l) :
    ∃ x7' odr' σ', tw_MO_sort_h144 fu dcs frm siz K (iN F.length) x3 x4 κ.1 fu 1 frs frt top bgn mst ovr tgr lvs st ffr fsz lkd lat kkd kat odr = K x7' frs frt top bgn mst ovr tgr lvs st ffr fsz lkd lat kkd kat odr' ∧ σ'.Perm l ∧ σ'.Pairwise (q_SR (q_kc F κ) Q) ∧ q_ar odr' 0 σ' := by
  by_cases c : F.length = 0
  · have : l = [] := List.eq_nil_of_length_eq_zero (by omega)
    subst this
    rw [r_144z (by omega) (by rw [c]; decide)]
    exact ⟨_, odr, [], rfl, List.Perm.refl _, List.Pairwise.nil, q_ar0 _ _⟩
  · have t1 : l.take 1 = [l[0]] := by
      rw [show (1 : Nat) = 0 + 1 from rfl, List.take_add_one, List.getElem?_eq_getElem (by omega)]
      rfl
    obtain ⟨odr', σ', e1, e2, e3, e4⟩ := r_144 (fu := fu) (dcs := dcs) (frm := frm) (siz := siz) (st := st) (ffr := ffr) (fsz := fsz) (lkd := lkd) (lat := lat) (kkd := kkd) (kat := kat) (frs := frs) (frt := frt) (top := top) (bgn := bgn) (mst := mst) (lvs := lvs) (ovr := ovr) (tgr := tgr) (x3 := x3) (x4 := x4) (K := K) hf hk hF hl hlm hQ (F.length - 1) 1 fu odr (l.take 1) (by omega) (by omega) (List.Perm.refl _) (by rw [t1]; exact List.pairwise_singleton _ _) (by rw [List.take_append_drop]; exact ho)
    exact ⟨_, odr', σ', e1, e2, e3, e4⟩
theorem q_SRl {F : List (List UInt8)} {κ : q_K} {ks : List q_K} {a c : Nat} (h : q_SR (q_kc F κ) (q_SR (q_kl F ks) (fun a c => a < c)) a c) : q_SR (q_kl F (κ :: ks)) (fun a c => a < c) a c := by
  show (if q_kc F κ a c = 0 then q_kl F ks a c else q_kc F κ a c) = -1 ∨ ((if q_kc F κ a c = 0 then q_kl F ks a c else q_kc F κ a c) = 0 ∧ a < c)
  rcases h with h | ⟨h, h2⟩
  · rw [if_neg (by rw [h]; decide)]
    exact Or.inl h
  · rw [if_pos h]
    exact h2
theorem q_sfx {x : q_P} : ∀ {ps : List q_P}, q_sf ps = 0 → x ∈ ps → q_sgs x = true ∧ (q_po x.2.1).isSome = true := by
  intro ps
  induction ps with
  | nil => exact fun _ h => by cases h
  | cons y r ih =>
    intro h hx
    rw [q_sfc] at h
    by_cases c1 : q_sgs y = true
    rotate_left
    · rw [if_neg c1] at h
      cases h
    rw [if_pos c1] at h
    by_cases c2 : (q_po y.2.1).isSome = true
    rotate_left
    · rw [if_neg c2] at h
      cases h
    rw [if_pos c2] at h
    rcases List.mem_cons.1 hx with e | hx
    · subst e
      exact ⟨c1, c2⟩
    · exact ih h hx
theorem r_46 {fu d e : Nat} {dcs tot frm siz st ffr fsz : Nat → Int32} {frs frt top bgn mst : Int32} {ovr tgr : Bool} {K : q_K16} {F : List (List UInt8)} {ps : List q_P} (hf : 60000 ≤ fu) (hb : q_rb st 0 dcs tot frm siz F) (h : sm st e (q_en ps ++ [0])) (ho : q_op d ps) (he : e + (q_en ps).length < 136400) (he0 : 128100 ≤ e) (hl : (q_en ps).length ≤ 2000) (h4 : ps.length ≤ 4) (hsf : q_sf ps = 0) :
    ∀ (m n : Nat) (lvs : Int32) (lkd lat kkd kat odr : Nat → Int32) (σ : List Nat), m ≤ ps.length → m < n → σ.Perm (List.range F.length) → σ.Pairwise (q_SR (q_kl F ((ps.drop m).map q_key)) (fun a c => a < c)) → q_ar odr 0 σ →
    ∃ x4' lv' lkd' lat' kkd' kat' odr' σ', tw_MO_sort_h46 fu dcs frm siz K (iN F.length) (iN e) n (iN m - 1) frs frt top bgn mst ovr tgr lvs st ffr fsz lkd lat kkd kat odr = K x4' frs frt top bgn mst ovr tgr lv' st ffr fsz lkd' lat' kkd' kat' odr' ∧ q_so F (ps.map q_key) σ' ∧ q_ar odr' 0 σ' := by
  have F1 := hb.2.2.2.2.1
  intro m
  induction m with
  | zero =>
    intro n lvs lkd lat kkd kat odr σ hm hn hp hs ho'
    obtain ⟨n, rfl⟩ : ∃ m, n = m + 1 := ⟨n - 1, by omega⟩
    unfold tw_MO_sort_h46
    rw [if_pos (show iN 0 - 1 < 0 by decide)]
    exact ⟨_, _, _, _, _, _, _, σ, rfl, ⟨hp, hs⟩, ho'⟩
  | succ m ih =>
    intro n lvs lkd lat kkd kat odr σ hm hn hp hs ho'
    obtain ⟨n, rfl⟩ : ∃ m, n = m + 1 := ⟨n - 1, by omega⟩
    have ml : m < ps.length := by omega
    have sp : ps = ps.take m ++ ps[m] :: ps.drop (m + 1) := by
      rw [← List.drop_eq_getElem_cons ml, List.take_append_drop]
    have tl : (ps.take m).length = m := by rw [List.length_take]; omega
    have xm : ps[m] ∈ ps := List.getElem_mem ml
    obtain ⟨hnm, hxo⟩ := ho _ xm
    obtain ⟨sg1, po1⟩ := q_sfx hsf xm
    have cl : q_cl ps[m].1 = 2 := by
      unfold q_sgs at sg1
      rw [Bool.and_eq_true] at sg1
      exact of_decide_eq_true sg1.1
    have en : (q_en ps).length = (q_en (ps.take m)).length + ((q_e1 ps[m]).length + (q_en (ps.drop (m + 1))).length) := by
      conv => lhs; rw [sp]
      rw [q_ena, q_enc, List.length_append, List.length_append]
    have el := q_e1l ps[m]
    have hx1 : sm st (e + (q_en (ps.take m)).length) (q_e1 ps[m]) := by
      have h' := h
      rw [sp, q_ena, q_enc, List.append_assoc, List.append_assoc] at h'
      exact (sm_ap.1 (sm_ap.1 h').2).1
    have s1 := sm_e1 hx1
    have r57 := fun (K : Int32 → q_K16) => r_57 (fu := fu) (dcs := dcs) (frm := frm) (siz := siz) (st := st) (ffr := ffr) (fsz := fsz) (lkd := lkd) (lat := lat) (kkd := kkd) (kat := kat) (odr := odr) (frs := frs) (frt := frt) (top := top) (bgn := bgn) (mst := mst) (lvs := lvs) (ovr := ovr) (tgr := tgr) (x2 := iN F.length) (x3 := iN e) (K := K) (x := ps[m]) (c := ps.drop (m + 1)) (d := d) (by omega) (ps.take m) e 0 fu (by rw [← sp]; exact h) (by rw [← sp]; exact ho) (by rw [← sp]; exact he) (by rw [← sp]; exact hl) (by omega) (by omega)
    rw [tl, Nat.zero_add] at r57
    obtain ⟨xs, hxs⟩ := Option.isSome_iff_exists.1 po1
    obtain ⟨p1, p2, p3, p4⟩ := q_pok hxs
    have ky : q_key ps[m] = ((q_key ps[m]).1, xs) := by
      unfold q_key
      rw [hxs]
      rfl
    have hsq : q_sq st (e + (q_en (ps.take m)).length + 1) xs := by
      intro _
      rw [← p1]
      refine ⟨sm_ap.2 ⟨s1.2.1, s1.2.2.1, trivial⟩, by omega, by omega, by omega⟩
    unfold tw_MO_sort_h46
    rw [iN_s1 (by omega), Nat.add_sub_cancel, if_neg (by simp (disch := omega) only [i_0, iN_a, iN_c, iN_le, iN_lt, iN_eq, iN_i]; omega), show (0 : Int32) = iN 0 from rfl, r57]
    rw [r_78 (by omega) hx1 hnm hxo cl (by omega) (by omega)]
    try dsimp only
    have r110 := fun (K : q_K16) => r_110 (fu := fu) (e := e + (q_en (ps.take m)).length) (dcs := dcs) (tot := tot) (frm := frm) (siz := siz) (st := st) (ffr := ffr) (fsz := fsz) (odr := odr) (frs := frs) (frt := frt) (top := top) (bgn := bgn) (mst := mst) (ovr := ovr) (tgr := tgr) (u := (q_key ps[m]).1) (x3 := iN e) (x4 := iN m) (K := K) hf hb p4 p2 p3 hsq F.length 0 fu lvs lkd lat kkd kat (by omega) (by omega) (fun i d q => absurd q (by omega))
    obtain ⟨lv2, lkd2, lat2, kkd2, kat2, g1, g2⟩ := r110 (fun (x7_18 : Int32) (frs_18 : Int32) (frt_18 : Int32) (top_18 : Int32) (bgn_18 : Int32) (mst_18 : Int32) (ovr_18 : Bool) (tgr_18 : Bool) (lvs_18 : Int32) (st_18 : Nat → Int32) (ffr_18 : Nat → Int32) (fsz_18 : Nat → Int32) (lkd_18 : Nat → Int32) (lat_18 : Nat → Int32) (kkd_18 : Nat → Int32) (kat_18 : Nat → Int32) (odr_18 : Nat → Int32) =>
          tw_MO_sort_h144 fu dcs frm siz (fun (x7_28 : Int32) (frs_28 : Int32) (frt_28 : Int32) (top_28 : Int32) (bgn_28 : Int32) (mst_28 : Int32) (ovr_28 : Bool) (tgr_28 : Bool) (lvs_28 : Int32) (st_28 : Nat → Int32) (ffr_28 : Nat → Int32) (fsz_28 : Nat → Int32) (lkd_28 : Nat → Int32) (lat_28 : Nat → Int32) (kkd_28 : Nat → Int32) (kat_28 : Nat → Int32) (odr_28 : Nat → Int32) =>
          tw_MO_sort_h46 fu dcs frm siz K (iN F.length) (iN e) n (iN m + (-1)) frs_28 frt_28 top_28 bgn_28 mst_28 ovr_28 tgr_28 lvs_28 st_28 ffr_28 fsz_28 lkd_28 lat_28 kkd_28 kat_28 odr_28) (iN F.length) (iN e) (iN m) (q_key ps[m]).1 fu 1 frs_18 frt_18 top_18 bgn_18 mst_18 ovr_18 tgr_18 lvs_18 st_18 ffr_18 fsz_18 lkd_18 lat_18 kkd_18 kat_18 odr_18)
    rw [g1]
    try dsimp only
    rw [← ky] at g2
    have sl : σ.length = F.length := by rw [hp.length_eq, List.length_range]
    obtain ⟨x7', odr2, σ2, q1, q2, q3, q4⟩ := r_144a (fu := fu) (dcs := dcs) (frm := frm) (siz := siz) (st := st) (ffr := ffr) (fsz := fsz) (lkd := lkd2) (lat := lat2) (kkd := kkd2) (kat := kat2) (odr := odr) (frs := frs) (frt := frt) (top := top) (bgn := bgn) (mst := mst) (lvs := lv2) (ovr := ovr) (tgr := tgr) (x3 := iN e) (x4 := iN m) (K := fun (x7_28 : Int32) (frs_28 : Int32) (frt_28 : Int32) (top_28 : Int32) (bgn_28 : Int32) (mst_28 : Int32) (ovr_28 : Bool) (tgr_28 : Bool) (lvs_28 : Int32) (st_28 : Nat → Int32) (ffr_28 : Nat → Int32) (fsz_28 : Nat → Int32) (lkd_28 : Nat → Int32) (lat_28 : Nat → Int32) (kkd_28 : Nat → Int32) (kat_28 : Nat → Int32) (odr_28 : Nat → Int32) =>
          tw_MO_sort_h46 fu dcs frm siz K (iN F.length) (iN e) n (iN m + (-1)) frs_28 frt_28 top_28 bgn_28 mst_28 ovr_28 tgr_28 lvs_28 st_28 ffr_28 fsz_28 lkd_28 lat_28 kkd_28 kat_28 odr_28) (κ := q_key ps[m]) hf g2 F1 sl (fun y hy => List.mem_range.1 (hp.mem_iff.1 hy)) hs ho'
    rw [q1]
    try dsimp only
    rw [q_m1a, show iN m - iN 1 = iN m - 1 from rfl]
    refine ih n lv2 lkd2 lat2 kkd2 kat2 odr2 σ2 (by omega) (by omega) (q2.trans hp) ?_ q4
    rw [List.drop_eq_getElem_cons ml, List.map_cons]
    exact q3.imp (fun hh => q_SRl hh)
theorem r_234 {fu : Nat} {dcs tot frm siz odr lkd lat kkd kat : Nat → Int32} {lvs : Int32} {K : q_K16} {F : List (List UInt8)} {σ : List Nat} (hf : 2500 ≤ fu) (hσ : ∀ y ∈ σ, y < F.length) (hl : σ.length ≤ 200) (ho : q_ar odr 0 σ) :
    ∀ (m i n : Nat) (frs frt top bgn mst : Int32) (ovr tgr : Bool) (st ffr fsz : Nat → Int32) (N : Option (List (List UInt8))), i + m = σ.length → m < n → q_rb st 0 dcs tot frm siz F → q_fr st frs frt top tgr ffr fsz N →
    ∃ fs ft tp bg ms ov tg st' ff fz, tw_MO_sort_h234 fu dcs frm siz K (iN σ.length) n (iN i) frs frt top bgn mst ovr tgr lvs st ffr fsz lkd lat kkd kat odr = K (iN σ.length) fs ft tp bg ms ov tg lvs st' ff fz lkd lat kkd kat odr ∧ q_fr st' fs ft tp tg ff fz (q_run N ((σ.drop i).map (fun y => F.getD y []))) ∧ (∀ j, j < 80000 ∨ 122001 ≤ j → st' j = st j) := by
  intro m
  induction m with
  | zero =>
    intro i n frs frt top bgn mst ovr tgr st ffr fsz N hi hn hb h
    obtain ⟨n, rfl⟩ : ∃ m, n = m + 1 := ⟨n - 1, by omega⟩
    have : i = σ.length := by omega
    subst this
    unfold tw_MO_sort_h234
    rw [if_pos (Int32.le_refl _), List.drop_length]
    exact ⟨_, _, _, _, _, _, _, _, _, _, rfl, h, fun _ _ => rfl⟩
  | succ m ih =>
    intro i n frs frt top bgn mst ovr tgr st ffr fsz N hi hn hb h
    obtain ⟨n, rfl⟩ : ∃ m, n = m + 1 := ⟨n - 1, by omega⟩
    have F2 := hb.2.2.2.2.2.1
    have il : i < σ.length := by omega
    have e := List.getElem?_eq_getElem il
    have oi := ho i _ e
    rw [Nat.zero_add] at oi
    have yl := hσ _ (List.getElem_mem il)
    have hk : F[σ[i]]? = some (F.getD σ[i] []) := by
      rw [List.getD_eq_getElem?_getD, List.getElem?_eq_getElem yl]
      rfl
    obtain ⟨fs, ft, tp, bg, ms, ov, tg, st', ff, fz, k1, k2, k3⟩ := r_keep (bgn := bgn) (mst := mst) (ovr := ovr) hf hb h hk
    obtain ⟨fs2, ft2, tp2, bg2, ms2, ov2, tg2, st2, ff2, fz2, g1, g2, g3⟩ := ih (i + 1) n fs ft tp bg ms ov tg st' ff fz (q_more N (F.getD σ[i] [])) (by omega) (by omega) (q_rbf hb (fun j u v => k3 j (by omega))) k2
    unfold tw_MO_sort_h234
    rw [if_neg (by simp (disch := omega) only [iN_a, iN_c, iN_le, iN_lt, iN_eq, iN_i]; omega), if_pos (by simp (disch := omega) only [i_0, i_200, iN_a, iN_c, iN_le, iN_lt, iN_eq, iN_i]; omega), iN_c (by omega), oi, k1, obs10, show iN i + 1 = iN (i + 1) from iN_a i 1, List.drop_eq_getElem_cons il, List.map_cons, q_runc]
    exact ⟨fs2, ft2, tp2, bg2, ms2, ov2, tg2, st2, ff2, fz2, g1, g2, fun j hj => (g3 j hj).trans (k3 j hj)⟩
theorem r_16 {fu : Nat} {dcs frm siz st ffr fsz lkd lat kkd kat : Nat → Int32} {frs frt top bgn mst lvs : Int32} {ovr tgr : Bool} {p0 x3 : Int32} {K : q_K16} {L : Nat} (hL : L ≤ 200) :
    ∀ (m i n : Nat) (odr : Nat → Int32), i + m = L → m < n → q_ar odr 0 (List.range i) → ∃ odr', tw_MO_sort_h16 fu dcs frm siz K p0 (iN L) x3 n (iN i) frs frt top bgn mst ovr tgr lvs st ffr fsz lkd lat kkd kat odr = K (iN L) frs frt top bgn mst ovr tgr lvs st ffr fsz lkd lat kkd kat odr' ∧ q_ar odr' 0 (List.range L) := by
  intro m
  induction m with
  | zero =>
    intro i n odr hi hn h
    obtain ⟨n, rfl⟩ : ∃ m, n = m + 1 := ⟨n - 1, by omega⟩
    have : i = L := by omega
    subst this
    unfold tw_MO_sort_h16
    rw [if_pos (Int32.le_refl _)]
    exact ⟨odr, rfl, h⟩
  | succ m ih =>
    intro i n odr hi hn h
    obtain ⟨n, rfl⟩ : ∃ m, n = m + 1 := ⟨n - 1, by omega⟩
    unfold tw_MO_sort_h16
    rw [if_neg (by simp (disch := omega) only [iN_a, iN_c, iN_le, iN_lt, iN_eq, iN_i]; omega), if_pos (by simp (disch := omega) only [i_0, i_200, iN_a, iN_c, iN_le, iN_lt, iN_eq, iN_i]; omega), iN_c (by omega), show iN i + 1 = iN (i + 1) from iN_a i 1]
    refine ih (i + 1) n _ (by omega) (by omega) ?_
    rw [List.range_succ, q_ara, q_arc]
    refine ⟨q_arf h (fun j u v => q_upn (by rw [List.length_range] at v; omega)), ?_, q_ar0 _ _⟩
    rw [List.length_range, Nat.zero_add, q_upe]
theorem r_sor {fu d P : Nat} {dcs tot frm siz st ffr fsz lkd lat kkd kat odr : Nat → Int32} {frs frt top bgn mst lvs : Int32} {ovr tgr : Bool} {F : List (List UInt8)} {ps : List q_P} (hf : 60000 ≤ fu) (hb : q_rb st 0 dcs tot frm siz F) (hfr : q_fr st frs frt top tgr ffr fsz (some [])) (h : sm st P (q_bx ps)) (ho : q_op d ps) (hP : P + (q_bx ps).length ≤ 136400) (hP0 : 128100 ≤ P) (hl : (q_bx ps).length ≤ 2000) (h1 : 1 ≤ ps.length) (h4 : ps.length ≤ 4) (hsf : q_sf ps = 0) :
    ∃ fs ft tp bg ms ov tg lv st' ff fz lkd' lat' kkd' kat' odr' σ, tw_MO_sort fu dcs frm siz frs frt top bgn mst ovr tgr lvs st ffr fsz lkd lat kkd kat odr (iN P) = some (fs, ft, tp, bg, ms, ov, tg, lv, st', ff, fz, lkd', lat', kkd', kat', odr') ∧ q_so F (ps.map q_key) σ ∧ q_fr st' fs ft tp tg ff fz (q_run (some []) (σ.map (fun y => F.getD y []))) ∧ (∀ j, j < 80000 ∨ 122001 ≤ j → st' j = st j) := by
  have F1 := hb.2.2.2.2.1
  have bl := q_bxl ps
  have pt : q_pt (P + 4) ps = P + 4 := by
    cases ps with
    | nil => exact absurd h1 (by decide)
    | cons x r => rfl
  unfold tw_MO_sort
  rw [r_fo h ho (by omega), obs1, pt, show dcs (0 : Int32).toNatClampNeg = iN F.length from hb.1, show (0 : Int32) = iN 0 from rfl]
  have r16 := fun (K : q_K16) => r_16 (fu := fu) (dcs := dcs) (frm := frm) (siz := siz) (st := st) (ffr := ffr) (fsz := fsz) (lkd := lkd) (lat := lat) (kkd := kkd) (kat := kat) (frs := frs) (frt := frt) (top := top) (bgn := bgn) (mst := mst) (lvs := lvs) (ovr := ovr) (tgr := tgr) (p0 := iN P) (x3 := iN (P + 4)) (K := K) F1 F.length 0 fu odr (by omega) (by omega) (q_ar0 _ _)
  obtain ⟨odr2, a1, a2⟩ := r16 _
  rw [a1]
  try dsimp only
  rw [r_co h ho hP (by omega) (by omega), obs1]
  have r46 := fun (K : q_K16) => r_46 (fu := fu) (d := d) (e := P + 4) (dcs := dcs) (tot := tot) (frm := frm) (siz := siz) (st := st) (ffr := ffr) (fsz := fsz) (frs := frs) (frt := frt) (top := top) (bgn := bgn) (mst := mst) (ovr := ovr) (tgr := tgr) (K := K) (F := F) (ps := ps) hf hb (sm_ap.1 h).2 ho (by omega) (by omega) (by omega) h4 hsf ps.length fu lvs lkd lat kkd kat odr2 (List.range F.length) (Nat.le_refl _) (by omega) (List.Perm.refl _) (by
    rw [List.drop_length]
    exact List.pairwise_lt_range.imp (fun hh => Or.inr ⟨rfl, hh⟩)) a2
  obtain ⟨x4', lv', lkd', lat', kkd', kat', odr', σ, b1, b2, b3⟩ := r46 _
  rw [b1]
  try dsimp only
  have sl : σ.length = F.length := by rw [b2.1.length_eq, List.length_range]
  have sm' : ∀ y ∈ σ, y < F.length := fun y hy => List.mem_range.1 (b2.1.mem_iff.1 hy)
  have r234 := fun (K : q_K16) => r_234 (fu := fu) (dcs := dcs) (tot := tot) (frm := frm) (siz := siz) (odr := odr') (lkd := lkd') (lat := lat') (kkd := kkd') (kat := kat') (lvs := lv') (K := K) (F := F) (σ := σ) (by omega) sm' (by omega) b3 F.length 0 fu frs frt top bgn mst ovr tgr st ffr fsz (some []) (by omega) (by omega) hb hfr
  rw [sl] at r234
  obtain ⟨fs, ft, tp, bg, ms, ov, tg, st', ff, fz, c1, c2, c3⟩ := r234 _
  rw [c1]
  rw [List.drop_zero] at c2
  exact ⟨fs, ft, tp, bg, ms, ov, tg, lv', st', ff, fz, lkd', lat', kkd', kat', odr', σ, rfl, b2, c2, c3⟩
theorem r_28 {fu d e : Nat} {st : Nat → Int32} {K : Bool → Option Int32} {x : q_P} (hf : 2500 ≤ fu) (h : sm st e (q_e1 x)) (hm : (0 : UInt8) ∉ x.2.1) (ho : q_ok d x.1 x.2.2) (he : e + (q_e1 x).length ≤ 136400) (hl : (q_e1 x).length ≤ 2000) : tw_MO_sortFault_r28 fu K st (iN e) = K (q_sgs x) := by
  have el := q_e1l x
  have s1 := sm_e1 h
  have kk := (q_okn ho).1
  have num : q_cl x.1 = 2 → (ob1 (tw_MO_valueOf fu st (iN e)) (fun r_8 => ob1 (tw_MO_number fu st (iN x.1.toNat) r_8) (fun r_9 => if (lg_cmp r_9 1) = 0 then K true else if (lg_cmp r_9 (-1)) = 0 then K true else K false))) = K (q_sgs x) := by
    intro hc
    rw [r_vo h hm (by omega) (by omega), obs1, r_num ho (Or.inl hc) s1.2.2.2 (by omega) (by omega), obs1]
    unfold q_sgs
    rw [decide_eq_true hc]
    by_cases n1 : q_nu x.1 x.2.2 = 1
    · rw [if_pos (by rw [q_lgz]; exact n1), decide_eq_true n1]
      rfl
    · rw [if_neg (by rw [q_lgz]; exact n1), decide_eq_false n1]
      by_cases n2 : q_nu x.1 x.2.2 = -1
      · rw [if_pos (by rw [q_lgz]; exact n2), decide_eq_true n2]
        rfl
      · rw [if_neg (by rw [q_lgz]; exact n2), decide_eq_false n2]
        rfl
  unfold tw_MO_sortFault_r28
  rw [if_pos (by simp (disch := omega) only [i_0, i_136400, iN_a, iN_c, iN_le, iN_lt, iN_eq, iN_i]; omega), iN_c (by omega), s1.1]
  by_cases c16 : x.1 = 16
  · rw [if_pos (by rw [c16]; rfl)]
    exact num (q_cl2.2 (Or.inl c16))
  rw [if_neg (fun q => c16 (by rw [show (16 : Int32) = iN 16 from rfl, iN_eq (by omega) (by omega), q_ko x.1 16 (by omega)] at q; exact q))]
  by_cases c18 : x.1 = 18
  · rw [if_pos (by rw [c18]; rfl)]
    exact num (q_cl2.2 (Or.inr c18))
  rw [if_neg (fun q => c18 (by rw [show (18 : Int32) = iN 18 from rfl, iN_eq (by omega) (by omega), q_ko x.1 18 (by omega)] at q; exact q))]
  have hc : ¬ q_cl x.1 = 2 := fun q => by
    rcases q_cl2.1 q with z | z
    · exact c16 z
    · exact c18 z
  unfold q_sgs
  rw [decide_eq_false hc]
  rfl
theorem r_sf_h {fu d : Nat} {st : Nat → Int32} {K : Int32 → Option Int32} (hK : ∀ x, K x = some 0) (hf : 2500 ≤ fu) : ∀ (ps : List q_P) (e n : Nat), sm st e (q_en ps ++ [0]) → q_op d ps → 0 < e → e + (q_en ps).length < 136400 → (q_en ps).length ≤ 2000 → ps.length < n →
    tw_MO_sortFault_h24 fu K st n (iN (q_pt e ps)) = some (iN (q_sf ps)) := by
  intro ps
  induction ps with
  | nil =>
    intro e n _ _ _ _ _ hn
    obtain ⟨n, rfl⟩ : ∃ m, n = m + 1 := ⟨n - 1, by omega⟩
    show K 0 = _
    exact hK _
  | cons x r ih =>
    intro e n h ho he hp hl hn
    obtain ⟨n, rfl⟩ : ∃ m, n = m + 1 := ⟨n - 1, by omega⟩
    obtain ⟨h1, h2⟩ := sm_en h
    obtain ⟨hm, hb⟩ := ho x List.mem_cons_self
    have e1 := q_e1l x
    have e2 := q_enl x r
    have s1 := sm_e1 h1
    rw [List.length_cons] at hn
    unfold tw_MO_sortFault_h24
    rw [q_ptc, if_neg (by simp (disch := omega) only [i_0, iN_a, iN_c, iN_le, iN_lt, iN_eq, iN_i]; omega), r_28 hf h1 hm hb (by omega) (by omega), q_sfc]
    cases c1 : q_sgs x with
    | false =>
      rw [if_pos (show b2i false = 0 from rfl), if_neg (show ¬ false = true by decide)]
      rfl
    | true =>
      rw [if_neg (show ¬ b2i true = 0 by decide), if_pos (show true = true from rfl), r_ne h1 hm (by omega) (by omega), obs1, iN_s (by omega), iN_s1 (by omega), show e + x.2.1.length + 1 - e - 1 = x.2.1.length by omega, show iN e + 1 = iN (e + 1) from iN_a e 1, r_ip s1.2.1 (by omega) (by omega) (by omega), obs1, q_b2, q_po1, r_no h ho hp (by omega), obs1, ih _ n h2 (fun y hy => ho y (List.mem_cons_of_mem _ hy)) (by omega) (by omega) (by omega) (by omega)]
      by_cases c2 : q_gp true x.2.1 = true ∧ q_dc x.2.1 < 8
      · rw [if_pos c2, if_pos (decide_eq_true c2)]
      · rw [if_neg c2, if_neg (by rw [decide_eq_false c2]; decide)]
        rfl
theorem r_sf {fu d p : Nat} {st : Nat → Int32} {ps : List q_P} (h : sm st p (q_bx ps)) (ho : q_op d ps) (hp : p + (q_bx ps).length ≤ 136400) (hl : (q_bx ps).length ≤ 2000) (hf : 2500 ≤ fu) :
    tw_MO_sortFault fu st (iN p) = some (iN (if 1 ≤ ps.length ∧ ps.length ≤ 4 then q_sf ps else 2)) := by
  have bl := q_bxl ps
  have pl := q_psl ps
  unfold tw_MO_sortFault
  rw [r_co h ho hp (by omega) hf, obs1]
  by_cases c1 : 1 ≤ ps.length
  rotate_left
  · rw [if_pos (by simp (disch := omega) only [i_1, iN_a, iN_c, iN_le, iN_lt, iN_eq, iN_i]; omega), if_neg (by omega)]
    rfl
  rw [if_neg (by simp (disch := omega) only [i_1, iN_a, iN_c, iN_le, iN_lt, iN_eq, iN_i]; omega)]
  by_cases c4 : ps.length ≤ 4
  rotate_left
  · rw [if_neg (by simp (disch := omega) only [i_4, iN_a, iN_c, iN_le, iN_lt, iN_eq, iN_i]; omega), if_neg (by omega)]
    rfl
  rw [if_pos (by simp (disch := omega) only [i_4, iN_a, iN_c, iN_le, iN_lt, iN_eq, iN_i]; omega), if_pos (show 1 ≤ ps.length ∧ ps.length ≤ 4 from ⟨c1, c4⟩), r_fo h ho (by omega), obs1]
  exact r_sf_h (fun _ => rfl) hf ps (p + 4) fu (sm_ap.1 h).2 ho (by omega) (by omega) (by omega) (by omega)
