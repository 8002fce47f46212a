/-! the pure part: the class's $sort: documents put into their order -/
theorem q_d2 {a : Nat} (h : a < 2147483648) : iN a / 2 = iN (a / 2) := show iN a / iN 2 = iN (a / 2) from (Int32.ofNat_div (by omega) (by omega)).symm
theorem c_pf_h {b : Nat → UInt8} {x : Nat} {k0 k1 k2 k3 sg ord : Nat → Int32} {F : List (List UInt8)} {ks : List q_K} {Q : Nat → Nat → Prop} {σ : List Nat} (hA : q_kA b k0 k1 k2 k3 sg F ks) (h4 : ks.length ≤ 4) (hx : x < F.length) (hF : F.length ≤ 200) (hσ : ∀ y ∈ σ, y < F.length) (hl : σ.length ≤ 200) (ho : q_ar ord 0 σ) (hs : σ.Pairwise (q_SR (q_kl F ks) Q)) :
    ∀ (m lo hi n t : Nat), lo ≤ hi → hi - lo ≤ m → hi ≤ σ.length → m < n → t + m ≤ 200 → (∀ j y, σ[j]? = some y → j < lo → q_kl F ks y x ≠ 1) → (∀ j y, σ[j]? = some y → hi ≤ j → q_kl F ks y x = 1) →
    ∃ a, tw_SO_placeFor_h7 (iN ks.length) b k0 k1 k2 k3 sg ord (iN x) n (iN lo) (iN hi) (iN t) = iN a ∧ a ≤ hi ∧ (∀ j y, σ[j]? = some y → j < a → q_kl F ks y x ≠ 1) ∧ (∀ j y, σ[j]? = some y → a ≤ j → q_kl F ks y x = 1) := by
  have PO := q_klp F ks
  intro m
  induction m with
  | zero =>
    intro lo hi n t h1 h2 h3 h5 h6 H1 H2
    obtain ⟨n, rfl⟩ : ∃ m, n = m + 1 := ⟨n - 1, by omega⟩
    have : lo = hi := by omega
    subst this
    unfold tw_SO_placeFor_h7
    rw [if_pos (Int32.le_refl _), ite_self]
    exact ⟨lo, rfl, Nat.le_refl _, H1, H2⟩
  | succ m ih =>
    intro lo hi n t h1 h2 h3 h5 h6 H1 H2
    obtain ⟨n, rfl⟩ : ∃ m, n = m + 1 := ⟨n - 1, by omega⟩
    unfold tw_SO_placeFor_h7
    by_cases c : hi ≤ lo
    · have : lo = hi := by omega
      subst this
      rw [if_pos (Int32.le_refl _), ite_self]
      exact ⟨lo, rfl, Nat.le_refl _, H1, H2⟩
    have ml : (lo + hi) / 2 < σ.length := by omega
    have e := List.getElem?_eq_getElem ml
    have om := ho _ _ e
    rw [Nat.zero_add] at om
    rw [if_neg (by simp (disch := omega) only [i_200, iN_a, iN_c, iN_le, iN_lt, iN_eq, iN_i]; omega), if_neg (by simp (disch := omega) only [iN_a, iN_c, iN_le, iN_lt, iN_eq, iN_i]; omega), iN_a, q_d2 (by omega), iN_c (by omega), om, c_cd hA h4 (hσ _ (List.getElem_mem ml)) hx hF, show iN ((lo + hi) / 2) + 1 = iN ((lo + hi) / 2 + 1) from iN_a _ 1, show iN t + 1 = iN (t + 1) from iN_a t 1]
    rcases PO.1 σ[(lo + hi) / 2] x with q | q | q
    · rw [q, if_pos (by decide)]
      refine ih ((lo + hi) / 2 + 1) hi n (t + 1) (by omega) (by omega) h3 (by omega) (by omega) (fun j y hj hj2 => ?_) H2
      exact q_mon PO hs hj e (by omega) (by rw [q]; decide)
    · rw [q, if_neg (by decide)]
      obtain ⟨a, a1, a2, a3, a4⟩ := ih lo ((lo + hi) / 2) n (t + 1) (by omega) (by omega) (by omega) (by omega) (by omega) H1 (fun j y hj hj2 => Classical.byContradiction (fun z => q_mon PO hs e hj hj2 z q))
      exact ⟨a, a1, by omega, a3, a4⟩
    · rw [q, if_pos (by decide)]
      refine ih ((lo + hi) / 2 + 1) hi n (t + 1) (by omega) (by omega) h3 (by omega) (by omega) (fun j y hj hj2 => ?_) H2
      exact q_mon PO hs hj e (by omega) (by rw [q]; decide)
def q_s1 (ord : Nat → Int32) (a m j : Nat) : Int32 := if a < j ∧ j ≤ a + m then ord (j - 1) else ord j
theorem q_s1n (ord : Nat → Int32) (a m : Nat) : q_s1 (upd ord (a + m + 1) (ord (a + m))) a m = q_s1 ord a (m + 1) := by
  funext j
  unfold q_s1
  by_cases c : a < j ∧ j ≤ a + m
  · rw [if_pos c, if_pos (by omega), q_upn (by omega)]
  · rw [if_neg c]
    by_cases c2 : j = a + m + 1
    · subst c2
      rw [q_upe, if_pos (by omega)]
      rfl
    · rw [q_upn c2, if_neg (by omega)]
theorem q_s1h {ord : Nat → Int32} {a i : Nat} {x : Int32} (h : a ≤ i) : upd (q_s1 ord a (i - a)) a x = q_sh ord a i x := by
  funext j
  unfold q_sh
  by_cases c : j = a
  · subst c
    rw [q_upe, if_neg (by omega), if_pos rfl]
  · rw [q_upn c]
    unfold q_s1
    by_cases c2 : j < a
    · rw [if_pos c2, if_neg (by omega)]
    · rw [if_neg c2, if_neg c]
      by_cases c3 : j ≤ i
      · rw [if_pos c3, if_pos (by omega)]
      · rw [if_neg c3, if_neg (by omega)]
theorem q_mm1 {a : Nat} : iN (a + 1) + (-1) = iN a := by
  rw [q_m1a, iN_s (by omega), Nat.add_sub_cancel]
theorem c_shf {fbase nbase sorts fcnt x1 x2 place limit ncnt : Int32} {full : Bool} {b : Nat → UInt8} {fsts nsts k0 k1 k2 k3 sg : Nat → Int32} {a : Nat} {K : Int32 → Int32 → Int32 → Bool → (Nat → UInt8) → Int32 → (Nat → Int32) → (Nat → Int32) → Int32 × Int32 × Int32 × Bool × (Nat → UInt8) × Int32 × (Nat → Int32) × (Nat → Int32)} :
    ∀ (m n : Nat) (ord : Nat → Int32), m < n → a + m < 1000 → tw_SO_keepInOrder_h37 fbase nbase sorts fcnt fsts k0 k1 k2 k3 sg K x1 x2 (iN a) n (iN (a + m)) place limit full b ncnt nsts ord = K (iN a) place limit full b ncnt nsts (q_s1 ord a m) := by
  intro m
  induction m with
  | zero =>
    intro n ord hn ha
    obtain ⟨n, rfl⟩ : ∃ m, n = m + 1 := ⟨n - 1, by omega⟩
    unfold tw_SO_keepInOrder_h37
    rw [Nat.add_zero, if_pos (Int32.le_refl _)]
    have : q_s1 ord a 0 = ord := by
      funext j
      unfold q_s1
      rw [if_neg (by omega)]
    rw [this]
  | succ m ih =>
    intro n ord hn ha
    obtain ⟨n, rfl⟩ : ∃ m, n = m + 1 := ⟨n - 1, by omega⟩
    unfold tw_SO_keepInOrder_h37
    rw [if_neg (by simp (disch := omega) only [iN_a, iN_c, iN_le, iN_lt, iN_eq, iN_i]; omega), ← Nat.add_assoc, q_mm1, iN_s1 (by omega), Nat.add_sub_cancel, iN_c (by omega), iN_c (by omega), ih n _ (by omega) (by omega), q_s1n]
/-- an order of all documents by keys, stable -/
def q_so (F : List (List UInt8)) (ks : List q_K) (σ : List Nat) : Prop := σ.Perm (List.range F.length) ∧ σ.Pairwise (q_SR (q_kl F ks) (fun a c => a < c))
theorem q_sou {F : List (List UInt8)} {ks : List q_K} {σ τ : List Nat} (h : q_so F ks σ) (h2 : q_so F ks τ) : σ = τ :=
  q_uq (q_SRa (q_klp F ks) (fun a c q => by omega)) σ τ (h.1.trans h2.1.symm) h.2 h2.2
theorem q_prm {σ l m : List Nat} {i : Nat} (h : σ.Perm (List.range i)) (e : σ = l ++ m) : (l ++ i :: m).Perm (List.range (i + 1)) := by
  subst e
  rw [List.range_succ]
  exact List.perm_middle.trans ((List.Perm.cons i h).trans (List.perm_append_singleton i (List.range i)).symm)
theorem c_ord {fb nb : Nat} {b : Nat → UInt8} {fcnt place limit ncnt : Int32} {full : Bool} {fsts nsts k0 k1 k2 k3 sg : Nat → Int32} {F : List (List UInt8)} {ks : List q_K} (hA : q_kA b k0 k1 k2 k3 sg F ks) (h4 : ks.length ≤ 4) (hF : F.length ≤ 200) :
    ∀ (m i n : Nat) (ord : Nat → Int32) (σ : List Nat), i + m = F.length → m < n → σ.Perm (List.range i) → σ.Pairwise (q_SR (q_kl F ks) (fun a c => a < c)) → q_ar ord 0 σ →
    ∃ ord' σ', tw_SO_keepInOrder_h19 (iN fb) (iN nb) (iN ks.length) fcnt fsts k0 k1 k2 k3 sg (iN F.length) n (iN i) place limit full b ncnt nsts ord = tw_SO_keepInOrder_h80 (iN fb) (iN nb) (iN ks.length) fcnt fsts k0 k1 k2 k3 sg (iN F.length) (F.length + 1) 0 place limit full b ncnt nsts ord' ∧ q_so F ks σ' ∧ q_ar ord' 0 σ' := by
  intro m
  induction m with
  | zero =>
    intro i n ord σ hi hn hp hs ho
    obtain ⟨n, rfl⟩ : ∃ m, n = m + 1 := ⟨n - 1, by omega⟩
    have : i = F.length := by omega
    subst this
    unfold tw_SO_keepInOrder_h19
    rw [if_pos (Int32.le_refl _), iN_i (by omega)]
    exact ⟨ord, σ, by rw [show ((F.length : Int) - (0 : Int32).toInt).toNat = F.length by show ((F.length : Int) - 0).toNat = F.length; omega], ⟨hp, hs⟩, ho⟩
  | succ m ih =>
    intro i n ord σ hi hn hp hs ho
    obtain ⟨n, rfl⟩ : ∃ m, n = m + 1 := ⟨n - 1, by omega⟩
    have sl : σ.length = i := by rw [hp.length_eq, List.length_range]
    have hm : ∀ y ∈ σ, y < i := fun y hy => List.mem_range.1 (hp.mem_iff.1 hy)
    obtain ⟨a, a1, a2, a3, a4⟩ := c_pf_h (x := i) (ord := ord) (σ := σ) hA h4 (by omega) hF (fun y hy => by have := hm y hy; omega) (by omega) ho hs i 0 i 202 0 (by omega) (by omega) (by omega) (by omega) (by omega) (fun j y _ q => by omega) (fun j y hj q => by have := (List.getElem?_eq_some_iff.1 hj).1; omega)
    have pf : tw_SO_placeFor (iN ks.length) b k0 k1 k2 k3 sg ord (iN i) = iN a := a1
    have sp : σ = σ.take a ++ σ.drop a := (List.take_append_drop a σ).symm
    have tl : (σ.take a).length = a := by rw [List.length_take]; omega
    have dl : (σ.drop a).length = i - a := by rw [List.length_drop]; omega
    have ho' := ho
    rw [sp] at ho' hs
    have sh := q_shr (x := i) (t := []) ho' (q_ar0 _ _)
    rw [tl, dl, List.append_nil, show a + (i - a) = i by omega] at sh
    have sr := q_isr (q_klp F ks) (x := i) hs (fun y hy => by
      obtain ⟨j, hj⟩ := List.mem_iff_getElem?.1 hy
      have jl := (List.getElem?_eq_some_iff.1 hj).1
      rw [List.getElem?_take_of_lt (by omega)] at hj
      exact a3 j y hj (by omega)) (fun y hy => by
      obtain ⟨j, hj⟩ := List.mem_iff_getElem?.1 hy
      rw [List.getElem?_drop] at hj
      exact a4 (a + j) y hj (by omega)) (fun y hy => hm y (List.mem_of_mem_take hy))
    unfold tw_SO_keepInOrder_h19
    rw [pf, if_neg (by simp (disch := omega) only [iN_a, iN_c, iN_le, iN_lt, iN_eq, iN_i]; omega), if_neg (by simp (disch := omega) only [iN_a, iN_c, iN_le, iN_lt, iN_eq, iN_i]; omega), iN_i (by omega), iN_i (by omega)]
    have cs := c_shf (fbase := iN fb) (nbase := iN nb) (sorts := iN ks.length) (fcnt := fcnt) (x1 := iN F.length) (x2 := iN i) (place := place) (limit := limit) (ncnt := ncnt) (full := full) (b := b) (fsts := fsts) (nsts := nsts) (k0 := k0) (k1 := k1) (k2 := k2) (k3 := k3) (sg := sg) (a := a) (K := (fun (x4_6 : Int32) (place_6 : Int32) (limit_6 : Int32) (full_6 : Bool) (b_6 : Nat → UInt8) (ncnt_6 : Int32) (nsts_6 : Nat → Int32) (ord_6 : Nat → Int32) =>
          tw_SO_keepInOrder_h19 (iN fb) (iN nb) (iN ks.length) fcnt fsts k0 k1 k2 k3 sg (iN F.length) n (iN i + 1) place_6 limit_6 full_6 b_6 ncnt_6 nsts_6 (upd ord_6 (iN a).toNatClampNeg (iN i)))) (i - a) (((i : Int) - (a : Int)).toNat + 1) ord (by omega) (by omega)
    rw [show a + (i - a) = i by omega] at cs
    rw [cs]
    rw [iN_c (by omega), q_s1h (by omega), show iN i + 1 = iN (i + 1) from iN_a i 1]
    exact ih (i + 1) n _ _ (by omega) (by omega) (q_prm hp sp) sr sh
theorem c_kio_h {fb nb : Nat} {fcnt sorts : Int32} {fsts k0 k1 k2 k3 sg ord : Nat → Int32} {F : List (List UInt8)} {σ : List Nat} (hd : fb + 40000 ≤ nb ∨ nb + 40000 ≤ fb) (hσ : ∀ y ∈ σ, y < F.length) (hl : σ.length ≤ 200) (ho : q_ar ord 0 σ) :
    ∀ (m i n : Nat) (b : Nat → UInt8) (ncnt place limit : Int32) (full : Bool) (nsts : Nat → Int32) (N : List (List UInt8)), i + m = σ.length → m < n → q_be b fb fcnt fsts F → q_be b nb ncnt nsts N →
    ∃ p l f b' c s M, tw_SO_keepInOrder_h80 (iN fb) (iN nb) sorts fcnt fsts k0 k1 k2 k3 sg (iN σ.length) n (iN i) place limit full b ncnt nsts ord = (q_05 (q_run (some N) ((σ.drop i).map (fun y => F.getD y []))), p, l, f, b', c, s, ord) ∧ q_be b' nb c s M ∧ (∀ R, q_run (some N) ((σ.drop i).map (fun y => F.getD y [])) = some R → M = R) ∧ (∀ j, j < nb ∨ nb + 40000 ≤ j → b' j = b j) := by
  intro m
  induction m with
  | zero =>
    intro i n b ncnt place limit full nsts N hi hn hb h
    obtain ⟨n, rfl⟩ : ∃ m, n = m + 1 := ⟨n - 1, by omega⟩
    have : i = σ.length := by omega
    subst this
    unfold tw_SO_keepInOrder_h80
    rw [if_pos (Int32.le_refl _), List.drop_length]
    exact ⟨_, _, _, _, _, _, N, rfl, h, (fun R q => by cases q; rfl), fun _ _ => rfl⟩
  | succ m ih =>
    intro i n b ncnt place limit full nsts N hi hn hb h
    obtain ⟨n, rfl⟩ : ∃ m, n = m + 1 := ⟨n - 1, by omega⟩
    have F2 := hb.2.2.2.1.2.1
    have il : i < σ.length := by omega
    have e := List.getElem?_eq_getElem il
    have oi := ho i _ e
    rw [Nat.zero_add] at oi
    have yl := hσ _ (List.getElem_mem il)
    have hk : F[σ[i]]? = some (F.getD σ[i] []) := by
      rw [List.getD_eq_getElem?_getD, List.getElem?_eq_getElem yl]
      rfl
    obtain ⟨p', l', f', b', c', s', k1', k2', k3'⟩ := c_keep (place := place) (limit := limit) (full := full) hb h hd hk
    unfold tw_SO_keepInOrder_h80
    rw [if_neg (by simp (disch := omega) only [iN_a, iN_c, iN_le, iN_lt, iN_eq, iN_i]; omega), iN_c (by omega), oi, k1', q_tp7, List.drop_eq_getElem_cons il, List.map_cons, q_runc]
    dsimp only
    cases hm : q_more (some N) (F.getD σ[i] []) with
    | none =>
      rw [hm] at k2'
      rw [q_runn, if_pos (show b2i (none : Option (List (List UInt8))).isSome = 0 from rfl)]
      exact ⟨_, _, _, _, _, _, N, rfl, k2', (fun R q => by cases q), k3'⟩
    | some N' =>
      rw [hm] at k2'
      obtain ⟨p2, l2, f2, b2, c2, s2, M, e1, e2, e3, e4⟩ := ih (i + 1) n b' c' p' l' f' s' N' (by omega) (by omega) (q_bef hb (fun j u v => k3' j (by omega))) k2'
      rw [if_neg (show ¬ b2i (some N').isSome = 0 from (by decide : ¬ b2i true = 0)), show iN i + 1 = iN (i + 1) from iN_a i 1]
      exact ⟨p2, l2, f2, b2, c2, s2, M, e1, e2, e3, fun j hj => (e4 j hj).trans (k3' j hj)⟩
theorem c_kio {fb nb : Nat} {b : Nat → UInt8} {fcnt place limit ncnt : Int32} {full : Bool} {fsts nsts k0 k1 k2 k3 sg ord : Nat → Int32} {F : List (List UInt8)} {ks : List q_K} (hd : fb + 40000 ≤ nb ∨ nb + 40000 ≤ fb) (hA : q_kA b k0 k1 k2 k3 sg F ks) (h4 : ks.length ≤ 4) (hb : q_be b fb fcnt fsts F) (h : q_be b nb ncnt nsts []) :
    ∃ p l f b' c s ord' M σ, tw_SO_keepInOrder (iN fb) (iN nb) (iN ks.length) fcnt fsts k0 k1 k2 k3 sg place limit full b ncnt nsts ord = (q_05 (q_run (some []) (σ.map (fun y => F.getD y []))), p, l, f, b', c, s, ord') ∧ q_so F ks σ ∧ q_be b' nb c s M ∧ (∀ R, q_run (some []) (σ.map (fun y => F.getD y [])) = some R → M = R) ∧ (∀ j, j < nb ∨ nb + 40000 ≤ j → b' j = b j) := by
  have F1 := hb.2.2.2.1.1
  obtain ⟨ord', σ, o1, o2, o3⟩ := c_ord (fb := fb) (nb := nb) (b := b) (fcnt := fcnt) (place := place) (limit := limit) (ncnt := ncnt) (full := full) (fsts := fsts) (nsts := nsts) (k0 := k0) (k1 := k1) (k2 := k2) (k3 := k3) (sg := sg) hA h4 F1 F.length 0 (((iN F.length).toInt - (0 : Int32).toInt).toNat + 1) ord [] (by omega) (by rw [iN_i (by omega)]; show _ < ((F.length : Nat) - (0 : Int)).toNat + 1; omega) (List.Perm.refl _) List.Pairwise.nil (q_ar0 _ _)
  have sl : σ.length = F.length := by rw [o2.1.length_eq, List.length_range]
  have sm : ∀ y ∈ σ, y < F.length := fun y hy => List.mem_range.1 (o2.1.mem_iff.1 hy)
  obtain ⟨p2, l2, f2, b2, c2, s2, M, e1, e2, e3, e4⟩ := c_kio_h (fb := fb) (nb := nb) (sorts := iN ks.length) (k0 := k0) (k1 := k1) (k2 := k2) (k3 := k3) (sg := sg) hd sm (by omega) o3 F.length 0 (F.length + 1) b ncnt place limit full nsts [] (by omega) (by omega) hb h
  rw [List.drop_zero] at e1 e3
  rw [sl] at e1
  unfold tw_SO_keepInOrder
  rw [if_neg (show ¬ 200 < fcnt by rw [hb.1]; simp (disch := omega) only [i_200, iN_a, iN_c, iN_le, iN_lt, iN_eq, iN_i]; omega)]
  conv at o1 => lhs; arg 11; rw [← hb.1]
  rw [hb.1] at o1 e1 ⊢
  exact ⟨p2, l2, f2, b2, c2, s2, ord', M, σ, o1.trans e1, o2, e2, e3, e4⟩
