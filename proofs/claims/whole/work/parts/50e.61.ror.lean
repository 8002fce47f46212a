/-! the pure part: the reference's $sort: one key -/
abbrev q_O16 : Type := Option (Int32 × Int32 × Int32 × Int32 × Int32 × Bool × Bool × Int32 × (Nat → Int32) × (Nat → Int32) × (Nat → Int32) × (Nat → Int32) × (Nat → Int32) × (Nat → Int32) × (Nat → Int32) × (Nat → Int32))
abbrev q_K16 : Type := Int32 → Int32 → Int32 → Int32 → Int32 → Int32 → Bool → Bool → Int32 → (Nat → Int32) → (Nat → Int32) → (Nat → Int32) → (Nat → Int32) → (Nat → Int32) → (Nat → Int32) → (Nat → Int32) → (Nat → Int32) → q_O16
def q_kaR (st kkd kat : Nat → Int32) (κ : q_K) (F : List (List UInt8)) (m : Nat) : Prop := ∀ i d, i < m → F[i]? = some d → q_kR st (kkd i) (kat i) (q_kyv κ.1 κ.2 d)
theorem r_110 {fu e : Nat} {dcs tot frm siz st ffr fsz odr : Nat → Int32} {frs frt top bgn mst : Int32} {ovr tgr u : Bool} {x3 x4 : Int32} {K : q_K16} {F xs : List (List UInt8)} (hf : 60000 ≤ fu) (hb : q_rb st 0 dcs tot frm siz F) (hx : ∀ x ∈ xs, q_gs x) (hx0 : xs ≠ []) (hx8 : xs.length ≤ 8) (hsq : q_sq st (e + 1) xs) :
    ∀ (m i n : Nat) (lvs : Int32) (lkd lat kkd kat : Nat → Int32), i + m = F.length → m < n → q_kaR st kkd kat (u, xs) F i →
    ∃ lv' lkd' lat' kkd' kat', tw_MO_sort_h110 fu dcs frm siz K (iN F.length) x3 x4 (iN e) u n (iN i) frs frt top bgn mst ovr tgr lvs st ffr fsz lkd lat kkd kat odr = K (iN F.length) frs frt top bgn mst ovr tgr lv' st ffr fsz lkd' lat' kkd' kat' odr ∧ q_kaR st kkd' kat' (u, xs) F F.length := by
  have F1 := hb.2.2.2.2.1
  have F2 := hb.2.2.2.2.2.1
  intro m
  induction m with
  | zero =>
    intro i n lvs lkd lat kkd kat hi hn hk
    obtain ⟨n, rfl⟩ : ∃ m, n = m + 1 := ⟨n - 1, by omega⟩
    have : i = F.length := by omega
    subst this
    unfold tw_MO_sort_h110
    rw [if_pos (Int32.le_refl _)]
    exact ⟨_, _, _, _, _, rfl, hk⟩
  | succ m ih =>
    intro i n lvs lkd lat kkd kat hi hn hk
    obtain ⟨n, rfl⟩ : ∃ m, n = m + 1 := ⟨n - 1, by omega⟩
    have il : i < F.length := by omega
    have hk2 : F[i]? = some F[i] := List.getElem?_eq_getElem il
    obtain ⟨d1, d2, d3, d4⟩ := q_rbd hb hk2
    obtain ⟨f1, f2⟩ := hb.2.2.1 i _ hk2
    simp only [Nat.mul_zero, Nat.zero_add] at f1 f2 d1 d4
    obtain ⟨lv', lkd', lat', K1, K2, g1, g2⟩ := r_key (u := u) (lvs := lvs) (lkd := lkd) (lat := lat) (kkd := kkd) (kat := kat) hf (show i < 200 by omega) (by omega) hx hx0 hx8 hsq d2 d1 d3
    unfold tw_MO_sort_h110
    rw [if_neg (by simp (disch := omega) only [iN_a, iN_c, iN_le, iN_lt, iN_eq, iN_i]; omega), if_pos (by simp (disch := omega) only [i_0, i_400, iN_a, iN_c, iN_le, iN_lt, iN_eq, iN_i]; omega), iN_c (by omega), f1, show iN e + 1 = iN (e + 1) from iN_a e 1, g1, obs5, show iN i + 1 = iN (i + 1) from iN_a i 1]
    refine ih (i + 1) n lv' lkd' lat' _ _ (by omega) (by omega) ?_
    intro i' d hi' hd
    by_cases c : i' = i
    · subst c
      rw [q_upe, q_upe]
      rw [hk2] at hd
      cases hd
      exact g2
    · rw [q_upn c, q_upn c]
      exact hk i' d (by omega) hd
theorem q_sc4 {c : Int32} {u : Bool} (h : q_s3 c) : (if b2i u = 0 then (if 0 ≤ c then some false else some true) else (if c ≤ 0 then some false else some true)) = some (decide (q_sgn u c = 1)) := by
  unfold q_sgn
  rcases h with rfl | rfl | rfl <;> cases u <;> rfl
theorem r_ib {fu a c : Nat} {st kkd kat : Nat → Int32} {κ : q_K} {F : List (List UInt8)} (hf : 2500 ≤ fu) (hk : q_kaR st kkd kat κ F F.length) (ha : a < F.length) (hc : c < F.length) (hF : F.length ≤ 200) : tw_MO_isBehind fu st kkd kat (iN a) (iN c) (b2i κ.1) = some (decide (q_kc F κ a c = 1)) := by
  have g1 : F.getD a [] = F[a] := by
    rw [List.getD_eq_getElem?_getD, List.getElem?_eq_getElem ha]
    rfl
  have g2 : F.getD c [] = F[c] := by
    rw [List.getD_eq_getElem?_getD, List.getElem?_eq_getElem hc]
    rfl
  unfold tw_MO_isBehind q_kc
  rw [if_pos (by simp (disch := omega) only [i_0, i_800, iN_a, iN_c, iN_le, iN_lt, iN_eq, iN_i]; omega), if_pos (by simp (disch := omega) only [i_0, i_800, iN_a, iN_c, iN_le, iN_lt, iN_eq, iN_i]; omega), iN_c (by omega), iN_c (by omega), r_kr hf (hk a F[a] ha (List.getElem?_eq_getElem ha)) (hk c F[c] hc (List.getElem?_eq_getElem hc)), obs1, g1, g2]
  exact q_sc4 (q_ov3 20 _ _ _ _)
theorem q_s1d (ord : Nat → Int32) {a i : Nat} (h : a < i) : upd (q_s1 ord (a + 1) (i - (a + 1))) (a + 1) (ord a) = q_s1 ord a (i - a) := by
  funext j
  by_cases c : j = a + 1
  · subst c
    rw [q_upe]
    unfold q_s1
    rw [if_pos (by omega)]
    rfl
  · rw [q_upn c]
    unfold q_s1
    by_cases c2 : a < j ∧ j ≤ a + (i - a)
    · rw [if_pos c2, if_pos (by omega)]
    · rw [if_neg c2, if_neg (by omega)]
theorem r_163 {fu x i : Nat} {dcs frm siz st ffr fsz lkd lat kkd kat odr : Nat → Int32} {frs frt top bgn mst lvs : Int32} {ovr tgr : Bool} {x2 x3 x4 x7 : Int32} {K : q_K16} {κ : q_K} {F : List (List UInt8)} {σ : List Nat} (hf : 60000 ≤ fu) (hk : q_kaR st kkd kat κ F F.length) (hF : F.length ≤ 200) (hx : x < F.length) (hσ : ∀ y ∈ σ, y < F.length) (hl : σ.length = i) (hi : i < 200) (ho : q_ar odr 0 σ) :
    ∀ (a n : Nat), a ≤ i → a < n → (∀ j y, σ[j]? = some y → a ≤ j → q_kc F κ y x = 1) →
    ∃ a', tw_MO_sort_h163 fu dcs frm siz K x2 x3 x4 κ.1 x7 (iN x) n (iN a) frs frt top bgn mst ovr tgr lvs st ffr fsz lkd lat kkd kat (q_s1 odr a (i - a)) = K (iN a') frs frt top bgn mst ovr tgr lvs st ffr fsz lkd lat kkd kat (q_s1 odr a' (i - a')) ∧ a' ≤ i ∧ (∀ j y, σ[j]? = some y → a' ≤ j → q_kc F κ y x = 1) ∧ (a' = 0 ∨ ∃ y, σ[a' - 1]? = some y ∧ q_kc F κ y x ≠ 1) := by
  intro a
  induction a with
  | zero =>
    intro n ha hn H
    obtain ⟨n, rfl⟩ : ∃ m, n = m + 1 := ⟨n - 1, by omega⟩
    unfold tw_MO_sort_h163
    rw [if_pos (show iN 0 ≤ 0 by decide)]
    exact ⟨0, rfl, by omega, H, Or.inl rfl⟩
  | succ a ih =>
    intro n ha hn H
    obtain ⟨n, rfl⟩ : ∃ m, n = m + 1 := ⟨n - 1, by omega⟩
    have al : a < σ.length := by omega
    have e := List.getElem?_eq_getElem al
    have oa := ho a _ e
    rw [Nat.zero_add] at oa
    have sa : q_s1 odr (a + 1) (i - (a + 1)) a = iN σ[a] := by
      unfold q_s1
      rw [if_neg (by omega), oa]
    unfold tw_MO_sort_h163
    rw [if_neg (by simp (disch := omega) only [i_0, iN_a, iN_c, iN_le, iN_lt, iN_eq, iN_i]; omega), iN_s1 (by omega), Nat.add_sub_cancel, if_pos (by simp (disch := omega) only [i_0, i_200, iN_a, iN_c, iN_le, iN_lt, iN_eq, iN_i]; omega), iN_c (by omega), sa, r_ib (by omega) hk (hσ _ (List.getElem_mem al)) hx hF, obs1]
    by_cases c : q_kc F κ σ[a] x = 1
    · rw [decide_eq_true c, if_neg (show ¬ b2i true = 0 by decide), if_pos (by simp (disch := omega) only [i_0, i_200, iN_a, iN_c, iN_le, iN_lt, iN_eq, iN_i]; omega), q_mm1, iN_c (by omega), ← oa, q_s1d odr (by omega)]
      refine ih n (by omega) (by omega) (fun j y hj hj2 => ?_)
      by_cases c2 : j = a
      · subst c2
        rw [e] at hj
        cases hj
        exact c
      · exact H j y hj (by omega)
    · rw [decide_eq_false c, if_pos (show b2i false = 0 from rfl)]
      refine ⟨a + 1, rfl, ha, H, Or.inr ⟨σ[a], ?_, c⟩⟩
      rw [Nat.add_sub_cancel]
      exact e
theorem r_144 {fu : Nat} {dcs frm siz st ffr fsz lkd lat kkd kat : Nat → Int32} {frs frt top bgn mst lvs : Int32} {ovr tgr : Bool} {x3 x4 : Int32} {K : q_K16} {κ : q_K} {F : List (List UInt8)} {l : List Nat} {Q : Nat → Nat → Prop} (hf : 60000 ≤ fu) (hk : q_kaR st kkd kat κ F F.length) (hF : F.length ≤ 200) (hl : l.length = F.length) (hlm : ∀ y ∈ l, y < F.length) (hQ : l.Pairwise Q) :
    ∀ (m i n : Nat) (odr : Nat → Int32) (σ : List Nat), i + m = F.length → m < n → σ.Perm (l.take i) → σ.Pairwise (q_SR (q_kc F κ) Q) → q_ar odr 0 (σ ++ l.drop i) →
    ∃ odr' σ', tw_MO_sort_h144 fu dcs frm siz K (iN F.length) x3 x4 κ.1 n (iN i) frs frt top bgn mst ovr tgr lvs st ffr fsz lkd lat kkd kat odr = K (iN F.length) frs frt top bgn mst ovr tgr lvs st ffr fsz lkd lat kkd kat odr' ∧ σ'.Perm l ∧ σ'.Pairwise (q_SR (q_kc F κ) Q) ∧ q_ar odr' 0 σ' := by
  have PO := q_kcp F κ
  intro m
  induction m with
  | zero =>
    intro i n odr σ hi hn hp hs ho
    obtain ⟨n, rfl⟩ : ∃ m, n = m + 1 := ⟨n - 1, by omega⟩
    have : i = F.length := by omega
    subst this
    unfold tw_MO_sort_h144
    rw [if_pos (Int32.le_refl _)]
    rw [← hl, List.take_length] at hp
    rw [← hl, List.drop_length, List.append_nil] at ho
    exact ⟨odr, σ, rfl, hp, hs, ho⟩
  | succ m ih =>
    intro i n odr σ hi hn hp hs ho
    obtain ⟨n, rfl⟩ : ∃ m, n = m + 1 := ⟨n - 1, by omega⟩
    have il : i < l.length := by omega
    have sl : σ.length = i := by rw [hp.length_eq, List.length_take]; omega
    have hm : ∀ y ∈ σ, y < F.length := fun y hy => hlm y (List.mem_of_mem_take (hp.mem_iff.1 hy))
    have xl := hlm _ (List.getElem_mem il)
    have ho2 := ho
    rw [List.drop_eq_getElem_cons il, q_ara, q_arc, Nat.zero_add, sl] at ho2
    obtain ⟨o1, o2, o3⟩ := ho2
    obtain ⟨a, a1, a2, a3, a4⟩ := r_163 (fu := fu) (x := l[i]) (i := i) (dcs := dcs) (frm := frm) (siz := siz) (st := st) (ffr := ffr) (fsz := fsz) (lkd := lkd) (lat := lat) (kkd := kkd) (kat := kat) (odr := odr) (frs := frs) (frt := frt) (top := top) (bgn := bgn) (mst := mst) (lvs := lvs) (ovr := ovr) (tgr := tgr) (x2 := iN F.length) (x3 := x3) (x4 := x4) (x7 := iN i) (K := (fun (x9_26 : Int32) (frs_26 : Int32) (frt_26 : Int32) (top_26 : Int32) (bgn_26 : Int32) (mst_26 : Int32) (ovr_26 : Bool) (tgr_26 : Bool) (lvs_26 : Int32) (st_26 : Nat → Int32) (ffr_26 : Nat → Int32) (fsz_26 : Nat → Int32) (lkd_26 : Nat → Int32) (lat_26 : Nat → Int32) (kkd_26 : Nat → Int32) (kat_26 : Nat → Int32) (odr_26 : Nat → Int32) =>
          if 0 ≤ x9_26 ∧ x9_26 < 200 then
            tw_MO_sort_h144 fu dcs frm siz K (iN F.length) x3 x4 κ.1 n (iN i + 1) frs_26 frt_26 top_26 bgn_26 mst_26 ovr_26 tgr_26 lvs_26 st_26 ffr_26 fsz_26 lkd_26 lat_26 kkd_26 kat_26 (upd odr_26 x9_26.toNatClampNeg (iN l[i]))
          else
            none)) (κ := κ) (F := F) (σ := σ) hf hk hF xl hm sl (by omega) o1 i fu (Nat.le_refl _) (by omega) (fun j y hj q => by have := (List.getElem?_eq_some_iff.1 hj).1; omega)
    have s10 : q_s1 odr i (i - i) = odr := by
      funext j
      unfold q_s1
      rw [if_neg (by omega)]
    rw [s10] at a1
    have sp : σ = σ.take a ++ σ.drop a := (List.take_append_drop a σ).symm
    have tl : (σ.take a).length = a := by rw [List.length_take]; omega
    have dl : (σ.drop a).length = i - a := by rw [List.length_drop]; omega
    have ho' := o1
    have hs' := hs
    rw [sp] at ho' hs'
    have sh := q_shr (x := l[i]) (t := l.drop (i + 1)) ho' (by rw [tl, dl, show a + (i - a) + 1 = i + 1 by omega]; exact o3)
    rw [tl, dl, show a + (i - a) = i by omega] at sh
    have sr := q_isr PO (x := l[i]) hs' (fun y hy => by
      rcases a4 with z | ⟨w, w1, w2⟩
      · subst z
        cases hy
      · obtain ⟨j, hj⟩ := List.mem_iff_getElem?.1 hy
        have jl := (List.getElem?_eq_some_iff.1 hj).1
        rw [List.getElem?_take_of_lt (by omega)] at hj
        exact q_mon PO hs hj w1 (by omega) w2) (fun y hy => by
      obtain ⟨j, hj⟩ := List.mem_iff_getElem?.1 hy
      rw [List.getElem?_drop] at hj
      exact a3 (a + j) y hj (by omega)) (fun y hy => by
      have yt := hp.mem_iff.1 (List.mem_of_mem_take hy)
      have hQ2 := hQ
      rw [← List.take_append_drop i l, List.pairwise_append] at hQ2
      exact hQ2.2.2 y yt l[i] (by rw [List.drop_eq_getElem_cons il]; exact List.mem_cons_self))
    have pm : (σ.take a ++ l[i] :: σ.drop a).Perm (l.take (i + 1)) := by
      rw [List.take_add_one, List.getElem?_eq_getElem il]
      refine List.perm_middle.trans ?_
      rw [← sp]
      exact (List.Perm.cons _ hp).trans (List.perm_append_singleton _ _).symm
    unfold tw_MO_sort_h144
    rw [if_neg (by simp (disch := omega) only [iN_a, iN_c, iN_le, iN_lt, iN_eq, iN_i]; omega), if_pos (by simp (disch := omega) only [i_0, i_200, iN_a, iN_c, iN_le, iN_lt, iN_eq, iN_i]; omega), iN_c (by omega), o2, a1]
    rw [if_pos (by simp (disch := omega) only [i_0, i_200, iN_a, iN_c, iN_le, iN_lt, iN_eq, iN_i]; omega), iN_c (by omega), q_s1h (by omega), show iN i + 1 = iN (i + 1) from iN_a i 1]
    exact ih (i + 1) n _ _ (by omega) (by omega) pm sr sh
