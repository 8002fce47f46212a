/-! the pure part: groups; the class gathers -/
def q_fdx (p : Nat → Bool) : List Nat → Nat
  | [] => 0
  | f :: r => if p f = true then 0 else q_fdx p r + 1
theorem q_fil (p : Nat → Bool) (l : List Nat) : q_fdx p l ≤ l.length := by
  induction l with
  | nil => exact Nat.le_refl _
  | cons f r ih =>
    unfold q_fdx
    rw [List.length_cons]
    split <;> omega
theorem q_fip (p : Nat → Bool) (l : List Nat) (h : q_fdx p l < l.length) : ∃ f, l[q_fdx p l]? = some f ∧ p f = true := by
  induction l with
  | nil => exact absurd h (by simp)
  | cons f r ih =>
    unfold q_fdx at h ⊢
    rw [List.length_cons] at h
    by_cases c : p f = true
    · rw [if_pos c]
      exact ⟨f, rfl, c⟩
    · rw [if_neg c] at h ⊢
      obtain ⟨f', h1, h2⟩ := ih (by omega)
      exact ⟨f', h1, h2⟩
def q_sK (K : Nat → q_V) (i f : Nat) : Bool := decide (q_ov2 20 (K f) (K i) = 0)
/-- the first documents of the groups among the first n; the group of a document; a group's documents -/
def q_gf (K : Nat → q_V) : Nat → List Nat
  | 0 => []
  | n + 1 => if q_fdx (q_sK K n) (q_gf K n) = (q_gf K n).length then q_gf K n ++ [n] else q_gf K n
def q_gn (K : Nat → q_V) (i : Nat) : Nat := q_fdx (q_sK K i) (q_gf K i)
def q_gm (K : Nat → q_V) (n g : Nat) : List Nat := (List.range n).filter (fun i => decide (q_gn K i = g))
theorem q_gfs (K : Nat → q_V) (n : Nat) : q_gf K (n + 1) = if q_gn K n = (q_gf K n).length then q_gf K n ++ [n] else q_gf K n := rfl
theorem q_gms (K : Nat → q_V) (n g : Nat) : q_gm K (n + 1) g = q_gm K n g ++ (if q_gn K n = g then [n] else []) := by
  unfold q_gm
  rw [List.range_succ, List.filter_append]
  congr 1
  by_cases c : q_gn K n = g
  · rw [if_pos c, List.filter_cons_of_pos (by exact decide_eq_true c), List.filter_nil]
  · rw [if_neg c, List.filter_cons_of_neg (by rw [decide_eq_false c]; decide), List.filter_nil]
theorem q_gfl (K : Nat → q_V) (n : Nat) : (q_gf K n).length ≤ n := by
  induction n with
  | zero => exact Nat.le_refl _
  | succ n ih =>
    rw [q_gfs]
    split
    · rw [List.length_append, List.length_singleton]
      omega
    · omega
theorem q_gfm (K : Nat → q_V) (n : Nat) : ∀ f ∈ q_gf K n, f < n := by
  induction n with
  | zero => exact fun f h => by cases h
  | succ n ih =>
    intro f hf
    rw [q_gfs] at hf
    split at hf
    · rcases List.mem_append.1 hf with h | h
      · have := ih f h
        omega
      · rw [List.mem_singleton.1 h]
        omega
    · have := ih f hf
      omega
theorem q_gnl {K : Nat → q_V} : ∀ {n m : Nat}, m < n → q_gn K m < (q_gf K n).length := by
  intro n
  induction n with
  | zero => exact fun h => by omega
  | succ n ih =>
    intro m hm
    rw [q_gfs]
    have le := q_fil (q_sK K n) (q_gf K n)
    change q_gn K n ≤ _ at le
    by_cases c : m = n
    · subst c
      split
      · rw [List.length_append, List.length_singleton]
        omega
      · omega
    · have := ih (show m < n by omega)
      split
      · rw [List.length_append, List.length_singleton]
        omega
      · exact this
theorem q_gmm {K : Nat → q_V} {n g m : Nat} (h : m ∈ q_gm K n g) : m < n ∧ q_gn K m = g := by
  obtain ⟨h1, h2⟩ := List.mem_filter.1 h
  exact ⟨List.mem_range.1 h1, of_decide_eq_true h2⟩
theorem q_gm0 {K : Nat → q_V} {n : Nat} : q_gm K n (q_gf K n).length = [] := by
  apply List.eq_nil_iff_forall_not_mem.2
  intro m hm
  obtain ⟨h1, h2⟩ := q_gmm hm
  have := q_gnl (K := K) h1
  omega
/-- a chain of documents -/
def q_chn (gnx : Nat → Int32) : List Nat → Prop
  | [] => True
  | m :: l => gnx m = (match l with | [] => -1 | m' :: _ => iN m') ∧ q_chn gnx l
theorem q_chf {gnx gnx' : Nat → Int32} : ∀ {l : List Nat}, q_chn gnx l → (∀ m ∈ l, gnx' m = gnx m) → q_chn gnx' l := by
  intro l
  induction l with
  | nil => exact fun _ _ => trivial
  | cons m l ih =>
    intro h hf
    exact ⟨(hf m List.mem_cons_self).trans h.1, ih h.2 (fun u hu => hf u (List.mem_cons_of_mem _ hu))⟩
theorem q_cha {gnx : Nat → Int32} {i : Nat} : ∀ {l : List Nat}, l ≠ [] → (∀ m ∈ l, m < i) → l.Nodup → q_chn gnx l → q_chn (upd (upd gnx i (-1)) (l.getLastD 0) (iN i)) (l ++ [i]) := by
  intro l
  induction l with
  | nil => exact fun h => absurd rfl h
  | cons m l ih =>
    intro _ hm hn h
    have mi := hm m List.mem_cons_self
    cases l with
    | nil =>
      refine ⟨?_, ?_, trivial⟩
      · show upd (upd gnx i (-1)) m (iN i) m = iN i
        exact q_upe
      · show upd (upd gnx i (-1)) m (iN i) i = -1
        rw [q_upn (by omega), q_upe]
    | cons m' r =>
      have I := ih (by simp) (fun u hu => hm u (List.mem_cons_of_mem _ hu)) (List.nodup_cons.1 hn).2 h.2
      have e : (m :: m' :: r).getLastD 0 = (m' :: r).getLastD 0 := by
        simp [List.getLastD]
      have lm : (m' :: r).getLastD 0 ∈ m' :: r := by
        simp only [List.getLastD]
        exact List.getLast_mem _
      rw [e]
      refine ⟨?_, I⟩
      have ne : m ≠ (m' :: r).getLastD 0 := fun q => (List.nodup_cons.1 hn).1 (by rw [q]; exact lm)
      rw [q_upn ne, q_upn (by omega)]
      exact h.1
/-- a value that lies where a group's values may -/
def q_kg (fb A T : Nat) (b : Nat → UInt8) (x : Int32) (z : q_V) : Prop := ∃ P, x = iN (32 * P + z.1.toNat) ∧ q_ok 16 z.1 z.2 ∧ sb b P z.2 ∧ z.2.length ≤ 2000 ∧ P + z.2.length ≤ 202000 ∧ (P + z.2.length ≤ 2000 ∨ (fb ≤ P ∧ P + z.2.length ≤ fb + 40000) ∨ (A ≤ P ∧ P + z.2.length ≤ T))
theorem q_kgr {fb A T : Nat} {b : Nat → UInt8} {x : Int32} {z : q_V} (h : q_kg fb A T b x z) : q_kr b x z := by
  obtain ⟨P, h1, h2, h3, h4, h5, _⟩ := h
  exact ⟨P, h1, Or.inl h2, h3, h5, h4⟩
theorem q_kgf {fb A T T' : Nat} {b b' : Nat → UInt8} {x : Int32} {z : q_V} (h : q_kg fb A T b x z) (hT : T ≤ T') (hf : ∀ j, j < 2000 ∨ (fb ≤ j ∧ j < fb + 40000) ∨ (A ≤ j ∧ j < T) → b' j = b j) : q_kg fb A T' b' x z := by
  obtain ⟨P, h1, h2, h3, h4, h5, h6⟩ := h
  exact ⟨P, h1, h2, sb_fr h3 (fun j u v => hf j (by omega)), h4, h5, by omega⟩
theorem q_ok10 {d : Nat} : q_ok d 10 [] := by
  have l : q_lf 10 [] := Or.inr (Or.inr (Or.inr (Or.inl ⟨rfl, rfl⟩)))
  cases d with
  | zero => exact l
  | succ d => exact Or.inl l
theorem q_kg0 {fb A T : Nat} {b : Nat → UInt8} : q_kg fb A T b 10 (10, []) := by
  refine ⟨0, rfl, ?_, trivial, Nat.zero_le _, Nat.zero_le _, Or.inl (Nat.zero_le _)⟩
  exact q_ok10
/-- the VALUE of an expression over a document of the belt -/
theorem c_ev1 {b : Nat → UInt8} {d p P t A L fb : Nat} {k : UInt8} {v doc : List UInt8} {pcnt pown : Int32} {pfix : Bool} {pst pen pix : Nat → Int32} (ho : q_ok d k v) (hd16 : d ≤ 16) (h : sb b p v) (hp : p + v.length ≤ 2000) (hr : q_xr b p k v pcnt pfix pown pst pen pix)
    (hd : q_ok 16 3 doc) (hD : sb b P doc) (hP : 2000 ≤ P) (hPf : fb ≤ P ∧ P + doc.length ≤ fb + 40000) (hPA : fb + 40000 ≤ A) (hAt : A ≤ t) (hvL : t + doc.length ≤ L) (hL : L ≤ 202000) (hv : doc.length ≤ 2000) (hv2 : 0 < doc.length) :
    ∃ ref t' b', tw_PA_val0 pcnt pfix pown pst pen (iN t) (iN L) false b (iN (32 * P + 3)) = (ref, iN t', iN L, false, b') ∧ t ≤ t' ∧ t' ≤ t + doc.length ∧ (∀ j, j < t ∨ L ≤ j → b' j = b j) ∧ (match q_xv k v doc with | none => ref = 0 | some z => q_kg fb A t' b' ref z) := by
  have X := c_xv ho h hp hr hd (by omega) hD hP (t := t) (L := L) (by omega) (by omega) hvL hL hv
  cases hz : q_xv k v doc with
  | none =>
    rw [hz] at X
    have X : tw_PA_val0 pcnt pfix pown pst pen (iN t) (iN L) false b (iN (32 * P + 3)) = (0, iN t, iN L, false, b) := X
    exact ⟨0, t, b, X, Nat.le_refl _, by omega, fun _ _ => rfl, rfl⟩
  | some z =>
    rw [hz] at X
    obtain ⟨Q, t', b', x1, x2, x3, x4, x5, x6⟩ := X
    obtain ⟨l1, o1⟩ := q_xvp ho hd hv (by omega) hz
    refine ⟨_, t', b', x1, by omega, by omega, x3, Q, rfl, q_okm o1 (by omega), x2, l1, by omega, by omega⟩
theorem c_hkr {b : Nat → UInt8} {x : Int32} {z : q_V} (h : q_kr b x z) : tw_ST_hsh0 b x = q_hs 20 z.1 z.2 := by
  obtain ⟨P, rfl, a1, a2, a3, a4⟩ := h
  exact c_hs0 a1 (by omega) a2 a3 (by omega)
def q_GI (fb T : Nat) (b : Nat → UInt8) (K : Nat → q_V) (i : Nat) (ngr : Int32) (gky ghs gfi gla gnx : Nat → Int32) : Prop :=
  ngr = iN (q_gf K i).length ∧ (∀ g f, (q_gf K i)[g]? = some f → q_kg fb 122000 T b (gky g) (K f) ∧ ghs g = q_hs 20 (K f).1 (K f).2 ∧ gfi g = iN ((q_gm K i g).headD 0) ∧ gla g = iN ((q_gm K i g).getLastD 0) ∧ q_gm K i g ≠ [] ∧ q_chn gnx (q_gm K i g))
theorem c_g1_h {b : Nat → UInt8} {fb T i : Nat} {K : Nat → q_V} {p1 : Int32} {ngr : Int32} {gky ghs gfi gla gnx gnx0 : Nat → Int32} (hi : i < 200) (hG : q_GI fb T b K i ngr gky ghs gfi gla gnx0) (hk : q_kg fb 122000 T b p1 (K i)) :
    ∀ (m g n : Nat), g + m = (q_gf K i).length → m < n → q_gn K i = g + q_fdx (q_sK K i) ((q_gf K i).drop g) →
    tw_GR_gatherOne_h13 b (iN i) p1 (q_hs 20 (K i).1 (K i).2) n (iN g) ngr gky ghs gfi gla gnx = if q_gn K i = (q_gf K i).length then (iN ((q_gf K i).length + 1), upd gky (q_gf K i).length p1, upd ghs (q_gf K i).length (q_hs 20 (K i).1 (K i).2), upd gfi (q_gf K i).length (iN i), upd gla (q_gf K i).length (iN i), gnx) else (ngr, gky, ghs, gfi, upd gla (q_gn K i) (iN i), upd gnx ((q_gm K i (q_gn K i)).getLastD 0) (iN i)) := by
  have fl := q_gfl K i
  obtain ⟨G1, G2⟩ := hG
  intro m
  induction m with
  | zero =>
    intro g n hg hn he
    obtain ⟨n, rfl⟩ : ∃ m, n = m + 1 := ⟨n - 1, by omega⟩
    have : g = (q_gf K i).length := by omega
    subst this
    rw [List.drop_length] at he
    have he : q_gn K i = (q_gf K i).length := he
    unfold tw_GR_gatherOne_h13
    rw [G1, if_pos (Int32.le_refl _), if_neg (by simp (disch := omega) only [i_200, iN_a, iN_c, iN_le, iN_lt, iN_eq, iN_i]; omega), if_pos he, iN_c (by omega), show iN (q_gf K i).length + 1 = iN ((q_gf K i).length + 1) from iN_a _ 1]
  | succ m ih =>
    intro g n hg hn he
    obtain ⟨n, rfl⟩ : ∃ m, n = m + 1 := ⟨n - 1, by omega⟩
    have gl : g < (q_gf K i).length := by omega
    obtain ⟨k1, k2, k3, k4, k5, k6⟩ := G2 g _ (List.getElem?_eq_getElem gl)
    rw [List.drop_eq_getElem_cons gl] at he
    have cm := c_kr (q_kgr k1) (q_kgr hk)
    unfold tw_GR_gatherOne_h13
    rw [if_neg (by rw [G1]; simp (disch := omega) only [iN_a, iN_c, iN_le, iN_lt, iN_eq, iN_i]; omega), iN_c (by omega), k2, cm, show iN g + 1 = iN (g + 1) from iN_a g 1]
    by_cases c : q_ov2 20 (K (q_gf K i)[g]) (K i) = 0
    · have hs : q_hs 20 (K (q_gf K i)[g]).1 (K (q_gf K i)[g]).2 = q_hs 20 (K i).1 (K i).2 := by
        obtain ⟨P, _, a1, _, a3, _⟩ := k1
        obtain ⟨Q, _, b1, _, b3, _⟩ := hk
        exact q_hse 16 20 20 _ _ _ _ (Or.inl a1) (Or.inl b1) (by omega) (by omega) (by omega) (by omega) c
      have fz : q_fdx (q_sK K i) ((q_gf K i)[g] :: (q_gf K i).drop (g + 1)) = 0 := if_pos (decide_eq_true c)
      rw [fz, Nat.add_zero] at he
      rw [if_pos hs, if_pos c, he, if_neg (by omega)]
      have lm : (q_gm K i g).getLastD 0 ∈ q_gm K i g := by
        cases hq : q_gm K i g with
        | nil => exact absurd hq k5
        | cons u r =>
          simp only [List.getLastD]
          exact List.getLast_mem _
      have ll := (q_gmm lm).1
      unfold tw_GR_join
      rw [iN_c (by omega), k4, if_neg (by simp (disch := omega) only [i_0, iN_a, iN_c, iN_le, iN_lt, iN_eq, iN_i]; omega), if_neg (by simp (disch := omega) only [i_200, iN_a, iN_c, iN_le, iN_lt, iN_eq, iN_i]; omega), iN_c (by omega), q_tp2]
    · have fz : q_fdx (q_sK K i) ((q_gf K i)[g] :: (q_gf K i).drop (g + 1)) = q_fdx (q_sK K i) ((q_gf K i).drop (g + 1)) + 1 := if_neg (show ¬ q_sK K i (q_gf K i)[g] = true from fun z => c (of_decide_eq_true z))
      rw [fz] at he
      rw [if_neg c, ite_self, ih (g + 1) n (by omega) (by omega) (by omega)]
theorem q_gmd (K : Nat → q_V) (n g : Nat) : (q_gm K n g).Nodup := List.Nodup.sublist List.filter_sublist List.nodup_range
theorem c_g1 {b : Nat → UInt8} {fb T i : Nat} {K : Nat → q_V} {p1 ngr : Int32} {gky ghs gfi gla gnx : Nat → Int32} (hi : i < 200) (hG : q_GI fb T b K i ngr gky ghs gfi gla gnx) (hk : q_kg fb 122000 T b p1 (K i)) :
    ∃ ngr' gky' ghs' gfi' gla' gnx', tw_GR_gatherOne b ngr gky ghs gfi gla (upd gnx i (-1)) (iN i) p1 = (ngr', gky', ghs', gfi', gla', gnx') ∧ q_GI fb T b K (i + 1) ngr' gky' ghs' gfi' gla' gnx' := by
  have fl := q_gfl K i
  have h := c_g1_h (gnx := upd gnx i (-1)) hi hG hk (q_gf K i).length 0 ((ngr.toInt - (0 : Int32).toInt).toNat + 1) (by omega) (by rw [hG.1, iN_i (by omega)]; show _ < (((q_gf K i).length : Nat) - (0 : Int)).toNat + 1; omega) (by rw [List.drop_zero, Nat.zero_add]; rfl)
  obtain ⟨G1, G2⟩ := hG
  have notin : ∀ g', i ∉ q_gm K i g' := fun g' hm => by
    have := (q_gmm hm).1
    omega
  unfold tw_GR_gatherOne
  rw [c_hkr (q_kgr hk), show (0 : Int32) = iN 0 from rfl]
  rw [show (0 : Int32) = iN 0 from rfl] at h
  rw [h]
  by_cases c : q_gn K i = (q_gf K i).length
  · rw [if_pos c]
    refine ⟨_, _, _, _, _, _, rfl, ?_, fun g f hg => ?_⟩
    · rw [q_gfs, if_pos c, List.length_append, List.length_singleton]
    · rw [q_gfs, if_pos c] at hg
      have gl := (List.getElem?_eq_some_iff.1 hg).1
      rw [List.length_append, List.length_singleton] at gl
      rw [q_gms]
      by_cases c2 : g = (q_gf K i).length
      · subst c2
        rw [List.getElem?_append_right (Nat.le_refl _), Nat.sub_self] at hg
        cases hg
        rw [q_upe, q_upe, q_upe, q_upe, if_pos c, q_gm0]
        refine ⟨hk, rfl, rfl, rfl, by simp, ?_, trivial⟩
        exact q_upe
      · rw [List.getElem?_append_left (by omega)] at hg
        obtain ⟨k1, k2, k3, k4, k5, k6⟩ := G2 g f hg
        rw [q_upn c2, q_upn c2, q_upn c2, q_upn c2, if_neg (by omega), List.append_nil]
        exact ⟨k1, k2, k3, k4, k5, q_chf k6 (fun m hm => q_upn (fun q => notin g (q ▸ hm)))⟩
  · rw [if_neg c]
    refine ⟨_, _, _, _, _, _, rfl, ?_, fun g f hg => ?_⟩
    · rw [q_gfs, if_neg c]
      exact G1
    · rw [q_gfs, if_neg c] at hg
      obtain ⟨k1, k2, k3, k4, k5, k6⟩ := G2 g f hg
      rw [q_gms]
      by_cases c2 : q_gn K i = g
      · subst c2
        rw [if_pos rfl, q_upe]
        refine ⟨k1, k2, ?_, ?_, by simp, q_cha k5 (fun m hm => (q_gmm hm).1) (q_gmd K i _) k6⟩
        · rw [k3]
          cases hq : q_gm K i (q_gn K i) with
          | nil => exact absurd hq k5
          | cons u r => rfl
        · rw [List.getLastD_concat]
      · rw [if_neg c2, List.append_nil, q_upn (fun q => c2 q.symm)]
        refine ⟨k1, k2, k3, k4, k5, q_chf k6 (fun m hm => ?_)⟩
        have lm : (q_gm K i (q_gn K i)).getLastD 0 ∈ q_gm K i (q_gn K i) := by
          have gl : q_gn K i < (q_gf K i).length := by
            have := q_fil (q_sK K i) (q_gf K i)
            change q_gn K i ≤ _ at this
            omega
          have k5' := (G2 (q_gn K i) _ (List.getElem?_eq_getElem gl)).2.2.2.2.1
          cases hq : q_gm K i (q_gn K i) with
          | nil => exact absurd hq k5'
          | cons u r =>
            simp only [List.getLastD]
            exact List.getLast_mem _
        rw [q_upn (fun q => c2 (by rw [q] at hm; exact (q_gmm lm).2.symm.trans (q_gmm hm).2)), q_upn (fun q => by have := (q_gmm hm).1; omega)]
