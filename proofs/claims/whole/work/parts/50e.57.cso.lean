/-! the pure part: the class's $sort: signs, keys, the order of documents -/
abbrev q_K := Bool × List (List UInt8)
def q_sgs (x : q_P) : Bool := decide (q_cl x.1 = 2) && (decide (q_nu x.1 x.2.2 = 1) || decide (q_nu x.1 x.2.2 = -1))
def q_key (x : q_P) : q_K := (decide (q_nu x.1 x.2.2 = 1), (q_po x.2.1).getD [])
theorem q_lgz (x y : Int64) : (lg_cmp x y = 0) = (x = y) := by
  unfold lg_cmp
  by_cases q : x > y
  · rw [if_pos q]
    refine propext ⟨fun z => absurd z (by decide), fun z => ?_⟩
    subst z
    exact absurd q (Int64.lt_irrefl)
  · rw [if_neg q]
    by_cases e : x = y
    · rw [if_pos e]
      exact propext ⟨fun _ => e, fun _ => rfl⟩
    · rw [if_neg e]
      exact propext ⟨fun z => absurd z (by decide), fun z => absurd z e⟩
theorem q_cnu {b : Nat → UInt8} {D p : Nat} {k : UInt8} {v : List UInt8} (ho : q_ok D k v) (hc : q_cl k = 2) (hs : sb b p v) (hp : p + v.length ≤ 202000) : tw_ST_number b (iN (32 * p + k.toNat)) = q_nu k v := by
  rcases q_cl2.1 hc with rfl | rfl
  · exact q_n16 (q_l16 ho) hs (by have := q_l16 ho; omega)
  · exact q_n18 (q_l18 ho) hs (by have := q_l18 ho; omega)
theorem c_isg {b : Nat → UInt8} {p D : Nat} {x : q_P} (ho : q_ok D x.1 x.2.2) (hs : sb b p x.2.2) (hp : p + x.2.2.length ≤ 2000) : tw_SO_isSign b (iN (32 * p + x.1.toNat)) = q_sgs x := by
  have kk := (q_okn ho).1
  unfold tw_SO_isSign q_sgs
  rw [q_co (by omega) kk]
  by_cases c1 : q_cl x.1 = 2
  rotate_left
  · rw [if_neg (by have := q_cl7 x.1; simp (disch := omega) only [i_2, iN_a, iN_c, iN_le, iN_lt, iN_eq, iN_i]; omega), decide_eq_false c1]
    rfl
  rw [if_pos (by rw [c1]; rfl), q_cnu ho c1 hs (by omega), decide_eq_true c1]
  by_cases n1 : q_nu x.1 x.2.2 = 1
  · rw [if_pos (by rw [q_lgz]; exact n1), decide_eq_true n1]
    rfl
  · rw [if_neg (by rw [q_lgz]; exact n1), decide_eq_false n1]
    by_cases n2 : q_nu x.1 x.2.2 = -1
    · rw [if_pos (by rw [q_lgz]; exact n2), decide_eq_true n2]
      rfl
    · rw [if_neg (by rw [q_lgz]; exact n2), decide_eq_false n2]
      rfl
theorem q_sgv {x : q_P} (h : q_sgs x = true) : (q_nu x.1 x.2.2).toInt32 = if (q_key x).1 = true then 1 else -1 := by
  unfold q_sgs at h
  rw [Bool.and_eq_true, Bool.or_eq_true, decide_eq_true_eq, decide_eq_true_eq, decide_eq_true_eq] at h
  unfold q_key
  dsimp only
  rcases h.2 with e | e
  · rw [decide_eq_true e, if_pos rfl, e]
    rfl
  · rw [decide_eq_false (by rw [e]; decide), if_neg (by decide), e]
    rfl
def q_sel (j : Nat) (k0 k1 k2 k3 : Nat → Int32) : Nat → Int32 := if j = 0 then k0 else if j = 1 then k1 else if j = 2 then k2 else k3
/-- an array holds the keys of the first m documents -/
def q_ka (b : Nat → UInt8) (f : Nat → Int32) (κ : q_K) (F : List (List UInt8)) (m : Nat) : Prop := ∀ i d, i < m → F[i]? = some d → q_kr b (f i) (q_kyv κ.1 κ.2 d)
def q_psn (psn : Nat → Int32) (r : Nat) : Prop := ∀ o, o < 2000 → ∃ s, s ≤ r ∧ psn o = iN s
theorem q_tp10 {T1 T2 T3 T4 T5 T6 T7 T8 T9 T10 Z : Type} (x1 : T1) (x2 : T2) (x3 : T3) (x4 : T4) (x5 : T5) (x6 : T6) (x7 : T7) (x8 : T8) (x9 : T9) (x10 : T10) (f : T1 → T2 → T3 → T4 → T5 → T6 → T7 → T8 → T9 → T10 → Z) : tp10 (x1, x2, x3, x4, x5, x6, x7, x8, x9, x10) f = f x1 x2 x3 x4 x5 x6 x7 x8 x9 x10 := rfl
theorem c_fk_h {b : Nat → UInt8} {fb j : Nat} {fcnt : Int32} {u : Bool} {fsts pst pen pix sg : Nat → Int32} {F xs : List (List UInt8)} (hb : q_be b fb fcnt fsts F) (hx : ∀ x ∈ xs, q_gs x) (hx0 : xs ≠ []) (hx8 : xs.length ≤ 8) (hpa : q_pa b pst pen pix xs) (hj : j < 4) (hsg : sg j = if u = true then 1 else -1) :
    ∀ (m i n r : Nat) (plc pbs : Int32) (pms : Bool) (plv psn k0 k1 k2 k3 : Nat → Int32), i + m = F.length → m < n → r + m < 2000000000 → q_psn psn r → q_ka b (q_sel j k0 k1 k2 k3) (u, xs) F i →
    ∃ plc' pbs' pms' plv' psn' k0' k1' k2' k3', tw_SO_findKeys_h2 (iN fb) fcnt fsts b (iN xs.length) pst pen pix sg (iN j) n (iN i) plc (iN r) pbs pms plv psn k0 k1 k2 k3 = (plc', iN (r + m), pbs', pms', plv', psn', k0', k1', k2', k3') ∧ q_psn psn' (r + m) ∧ q_ka b (q_sel j k0' k1' k2' k3') (u, xs) F F.length ∧ (∀ i', i' < 4 → i' ≠ j → q_sel i' k0' k1' k2' k3' = q_sel i' k0 k1 k2 k3) := by
  intro m
  induction m with
  | zero =>
    intro i n r plc pbs pms plv psn k0 k1 k2 k3 hi hn hr hs hk
    obtain ⟨n, rfl⟩ : ∃ m, n = m + 1 := ⟨n - 1, by omega⟩
    have : i = F.length := by omega
    subst this
    unfold tw_SO_findKeys_h2
    rw [hb.1, if_pos (Int32.le_refl _)]
    exact ⟨_, _, _, _, _, _, _, _, _, rfl, hs, hk, fun _ _ _ => rfl⟩
  | succ m ih =>
    intro i n r plc pbs pms plv psn k0 k1 k2 k3 hi hn hr hs hk
    obtain ⟨n, rfl⟩ : ∃ m, n = m + 1 := ⟨n - 1, by omega⟩
    have il : i < F.length := by omega
    have F1 := hb.2.2.2.1.1
    have F2 := hb.2.2.2.1.2.1
    have F5 := hb.2.2.2.2.1
    have hk2 : F[i]? = some F[i] := List.getElem?_eq_getElem il
    obtain ⟨d1, d2, d3, d4⟩ := q_bed hb hk2
    have bsd := q_bsd hb (show i ≤ F.length by omega)
    obtain ⟨pc, plv', psn', pms', e1, e2, e3⟩ := c_key (u := u) (psr := iN r) (plc := plc) (pbs := pbs) (pms := pms) (plv := plv) (psn := psn) (by omega) hx hx0 hx8 hpa d2 d1 d3 (by
      intro o ho q
      obtain ⟨s, s1, s2⟩ := hs o ho
      rw [s2, show iN r + 1 = iN (r + 1) from iN_a r 1, iN_eq (by omega) (by omega)] at q
      omega)
    rw [show iN r + 1 = iN (r + 1) from iN_a r 1] at e1 e3
    have hs' : q_psn psn' (r + 1) := by
      intro o ho
      rcases e3 o ho with q | q
      · exact ⟨r + 1, Nat.le_refl _, q⟩
      · obtain ⟨s, s1, s2⟩ := hs o ho
        exact ⟨s, by omega, q.trans s2⟩
    have fin : ∀ k0' k1' k2' k3' : Nat → Int32, q_sel j k0' k1' k2' k3' = upd (q_sel j k0 k1 k2 k3) i (tw_SO_leastLeaf b pc plv' (if u = true then 1 else -1)) → (∀ i', i' < 4 → i' ≠ j → q_sel i' k0' k1' k2' k3' = q_sel i' k0 k1 k2 k3) → ∃ plc2 pbs2 pms2 plv2 psn2 k02 k12 k22 k32, tw_SO_findKeys_h2 (iN fb) fcnt fsts b (iN xs.length) pst pen pix sg (iN j) n (iN i + 1) pc (iN (r + 1)) (iN (fb + q_pf F i)) pms' plv' psn' k0' k1' k2' k3' = (plc2, iN (r + (m + 1)), pbs2, pms2, plv2, psn2, k02, k12, k22, k32) ∧ q_psn psn2 (r + (m + 1)) ∧ q_ka b (q_sel j k02 k12 k22 k32) (u, xs) F F.length ∧ (∀ i', i' < 4 → i' ≠ j → q_sel i' k02 k12 k22 k32 = q_sel i' k0 k1 k2 k3) := by
      intro k0' k1' k2' k3' h1 h2
      have hk' : q_ka b (q_sel j k0' k1' k2' k3') (u, xs) F (i + 1) := by
        intro i' d hi' hd
        rw [h1]
        by_cases c : i' = i
        · subst c
          rw [q_upe]
          rw [hk2] at hd
          cases hd
          exact e2
        · rw [q_upn c]
          exact hk i' d (by omega) hd
      obtain ⟨a1, a2, a3, a4, a5, a6, a7, a8, a9, g1, g2, g3, g4⟩ := ih (i + 1) n (r + 1) pc (iN (fb + q_pf F i)) pms' plv' psn' k0' k1' k2' k3' (by omega) (by omega) (by omega) hs' hk'
      rw [show iN i + 1 = iN (i + 1) from iN_a i 1, show r + (m + 1) = r + 1 + m by omega]
      exact ⟨a1, a2, a3, a4, a5, a6, a7, a8, a9, g1, g2, g3, fun i' q1 q2 => (g4 i' q1 q2).trans (h2 i' q1 q2)⟩
    unfold tw_SO_findKeys_h2
    rw [hb.1, if_neg (by simp (disch := omega) only [iN_a, iN_c, iN_le, iN_lt, iN_eq, iN_i]; omega), if_neg (by simp (disch := omega) only [i_200, iN_a, iN_c, iN_le, iN_lt, iN_eq, iN_i]; omega), ← hb.1, bsd, e1, q_tp6]
    dsimp only
    rw [iN_c (by omega), iN_c (by omega), hsg]
    have j4 : j = 0 ∨ j = 1 ∨ j = 2 ∨ j = 3 := by omega
    rcases j4 with rfl | rfl | rfl | rfl
    · rw [if_pos (show iN 0 = 0 from rfl)]
      refine fin _ _ _ _ rfl (fun i' q1 q2 => ?_)
      unfold q_sel
      rw [if_neg q2, if_neg q2]
    · rw [if_neg (show ¬ iN 1 = 0 by decide), if_pos (show iN 1 = 1 from rfl)]
      refine fin _ _ _ _ rfl (fun i' q1 q2 => ?_)
      unfold q_sel
      rw [if_neg q2, if_neg q2]
    · rw [if_neg (show ¬ iN 2 = 0 by decide), if_neg (show ¬ iN 2 = 1 by decide), if_pos (show iN 2 = 2 from rfl)]
      refine fin _ _ _ _ rfl (fun i' q1 q2 => ?_)
      unfold q_sel
      rw [if_neg q2, if_neg q2]
    · rw [if_neg (show ¬ iN 3 = 0 by decide), if_neg (show ¬ iN 3 = 1 by decide), if_neg (show ¬ iN 3 = 2 by decide)]
      refine fin _ _ _ _ rfl (fun i' q1 q2 => ?_)
      unfold q_sel
      by_cases c0 : i' = 0
      · rw [if_pos c0, if_pos c0]
      · rw [if_neg c0, if_neg c0]
        by_cases c1 : i' = 1
        · rw [if_pos c1, if_pos c1]
        · rw [if_neg c1, if_neg c1, if_pos (show i' = 2 by omega), if_pos (show i' = 2 by omega)]
/-- documents in the order of one key, of several -/
def q_kc (F : List (List UInt8)) (κ : q_K) (a c : Nat) : Int32 := q_sgn κ.1 (q_ov2 20 (q_kyv κ.1 κ.2 (F.getD a [])) (q_kyv κ.1 κ.2 (F.getD c [])))
def q_kl (F : List (List UInt8)) : List q_K → Nat → Nat → Int32
  | [] => fun _ _ => 0
  | κ :: ks => q_lx (q_kc F κ) (q_kl F ks)
theorem q_kcp (F : List (List UInt8)) (κ : q_K) : q_PO (q_kc F κ) := q_POi (q_sgp (q_ovp 20) κ.1) (fun a : Nat => q_kyv κ.1 κ.2 (F.getD a []))
theorem q_klp (F : List (List UInt8)) (ks : List q_K) : q_PO (q_kl F ks) := by
  induction ks with
  | nil => exact q_zp
  | cons κ ks ih => exact q_lxp (q_kcp F κ) ih
def q_kA (b : Nat → UInt8) (k0 k1 k2 k3 sg : Nat → Int32) (F : List (List UInt8)) (ks : List q_K) : Prop := ∀ j κ, ks[j]? = some κ → q_ka b (q_sel j k0 k1 k2 k3) κ F F.length ∧ sg j = if κ.1 = true then 1 else -1
theorem q_sc2 {c : Int32} {u : Bool} (h : q_s3 c) : c * (if u = true then 1 else -1) = q_sgn u c := by
  unfold q_sgn
  rcases h with rfl | rfl | rfl <;> cases u <;> decide
theorem q_sc3 {c : Int32} {u : Bool} (h : q_s3 c) : (q_sgn u c = 0) = (c = 0) := by
  unfold q_sgn
  rcases h with rfl | rfl | rfl <;> cases u <;> decide
theorem c_cd_h {b : Nat → UInt8} {p q : Nat} {k0 k1 k2 k3 sg : Nat → Int32} {F : List (List UInt8)} {ks : List q_K} (hA : q_kA b k0 k1 k2 k3 sg F ks) (h4 : ks.length ≤ 4) (hp : p < F.length) (hq : q < F.length) (hF : F.length ≤ 200) :
    ∀ (m j n : Nat), j + m = ks.length → m < n → tw_SO_compareDocuments_h26 (iN ks.length) b k0 k1 k2 k3 sg (iN p) (iN q) n (iN j) = q_kl F (ks.drop j) p q := by
  intro m
  induction m with
  | zero =>
    intro j n hj hn
    obtain ⟨n, rfl⟩ : ∃ m, n = m + 1 := ⟨n - 1, by omega⟩
    have : j = ks.length := by omega
    subst this
    unfold tw_SO_compareDocuments_h26
    rw [if_pos (Int32.le_refl _), List.drop_length]
    rfl
  | succ m ih =>
    intro j n hj hn
    obtain ⟨n, rfl⟩ : ∃ m, n = m + 1 := ⟨n - 1, by omega⟩
    have jl : j < ks.length := by omega
    obtain ⟨hk, hsg⟩ := hA j ks[j] (List.getElem?_eq_getElem jl)
    have cm := c_kr (hk p F[p] hp (List.getElem?_eq_getElem hp)) (hk q F[q] hq (List.getElem?_eq_getElem hq))
    have g1 : F.getD p [] = F[p] := by
      rw [List.getD_eq_getElem?_getD, List.getElem?_eq_getElem hp]
      rfl
    have g2 : F.getD q [] = F[q] := by
      rw [List.getD_eq_getElem?_getD, List.getElem?_eq_getElem hq]
      rfl
    rw [← g1, ← g2] at cm
    have s3 := q_ov3 20 (q_kyv ks[j].1 ks[j].2 (F.getD p [])).1 (q_kyv ks[j].1 ks[j].2 (F.getD p [])).2 (q_kyv ks[j].1 ks[j].2 (F.getD q [])).1 (q_kyv ks[j].1 ks[j].2 (F.getD q [])).2
    change q_s3 (q_ov2 20 (q_kyv ks[j].1 ks[j].2 (F.getD p [])) (q_kyv ks[j].1 ks[j].2 (F.getD q []))) at s3
    have key : (if q_ov2 20 (q_kyv ks[j].1 ks[j].2 (F.getD p [])) (q_kyv ks[j].1 ks[j].2 (F.getD q [])) = 0 then tw_SO_compareDocuments_h26 (iN ks.length) b k0 k1 k2 k3 sg (iN p) (iN q) n (iN j + 1) else q_ov2 20 (q_kyv ks[j].1 ks[j].2 (F.getD p [])) (q_kyv ks[j].1 ks[j].2 (F.getD q [])) * sg j) = q_kl F (ks.drop j) p q := by
      rw [List.drop_eq_getElem_cons jl]
      show _ = if q_kc F ks[j] p q = 0 then q_kl F (ks.drop (j + 1)) p q else q_kc F ks[j] p q
      unfold q_kc
      rw [hsg, q_sc2 s3, show iN j + 1 = iN (j + 1) from iN_a j 1, ih (j + 1) n (by omega) (by omega)]
      have e := q_sc3 (u := ks[j].1) s3
      by_cases c : q_ov2 20 (q_kyv ks[j].1 ks[j].2 (F.getD p [])) (q_kyv ks[j].1 ks[j].2 (F.getD q [])) = 0
      · rw [if_pos c, if_pos (by rw [e]; exact c)]
      · rw [if_neg c, if_neg (by rw [e]; exact c)]
    unfold tw_SO_compareDocuments_h26
    rw [if_neg (by simp (disch := omega) only [iN_a, iN_c, iN_le, iN_lt, iN_eq, iN_i]; omega), iN_c (show p < 2147483648 by omega), iN_c (show q < 2147483648 by omega), iN_c (show j < 2147483648 by omega)]
    generalize q_ov2 20 (q_kyv ks[j].1 ks[j].2 (F.getD p [])) (q_kyv ks[j].1 ks[j].2 (F.getD q [])) = X at *
    have j4 : j = 0 ∨ j = 1 ∨ j = 2 ∨ j = 3 := by omega
    rcases j4 with rfl | rfl | rfl | rfl
    · have cm : tw_ST_cmp0 b (k0 p) (k0 q) = X := cm
      rw [if_pos (show iN 0 = 0 from rfl), cm]
      exact key
    · have cm : tw_ST_cmp0 b (k1 p) (k1 q) = X := cm
      rw [if_neg (show ¬ iN 1 = 0 by decide), if_pos (show iN 1 = 1 from rfl), cm]
      exact key
    · have cm : tw_ST_cmp0 b (k2 p) (k2 q) = X := cm
      rw [if_neg (show ¬ iN 2 = 0 by decide), if_neg (show ¬ iN 2 = 1 by decide), if_pos (show iN 2 = 2 from rfl), cm]
      exact key
    · have cm : tw_ST_cmp0 b (k3 p) (k3 q) = X := cm
      rw [if_neg (show ¬ iN 3 = 0 by decide), if_neg (show ¬ iN 3 = 1 by decide), if_neg (show ¬ iN 3 = 2 by decide), cm]
      exact key
theorem c_cd {b : Nat → UInt8} {p q : Nat} {k0 k1 k2 k3 sg : Nat → Int32} {F : List (List UInt8)} {ks : List q_K} (hA : q_kA b k0 k1 k2 k3 sg F ks) (h4 : ks.length ≤ 4) (hp : p < F.length) (hq : q < F.length) (hF : F.length ≤ 200) : tw_SO_compareDocuments (iN ks.length) b k0 k1 k2 k3 sg (iN p) (iN q) = q_kl F ks p q := by
  unfold tw_SO_compareDocuments
  rw [if_neg (by simp (disch := omega) only [i_0, iN_a, iN_c, iN_le, iN_lt, iN_eq, iN_i]; omega), if_neg (by simp (disch := omega) only [i_200, iN_a, iN_c, iN_le, iN_lt, iN_eq, iN_i]; omega), if_neg (by simp (disch := omega) only [i_0, iN_a, iN_c, iN_le, iN_lt, iN_eq, iN_i]; omega), if_pos (by simp (disch := omega) only [i_200, iN_a, iN_c, iN_le, iN_lt, iN_eq, iN_i]; omega)]
  have := c_cd_h hA h4 hp hq hF ks.length 0 (((iN ks.length).toInt - (0 : Int32).toInt).toNat + 1) (by omega) (by rw [iN_i (by omega)]; show _ < ((ks.length : Nat) - (0 : Int)).toNat + 1; omega)
  rw [List.drop_zero] at this
  exact this
