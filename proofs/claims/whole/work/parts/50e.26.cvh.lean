/-! the pure part: the class's VALUE of a path, whole -/
theorem q_paf {b b' : Nat → UInt8} {pst pen pix : Nat → Int32} {xs : List (List UInt8)} (h : q_pa b pst pen pix xs) (hf : ∀ j, j < 2000 → b' j = b j) : q_pa b' pst pen pix xs := by
  intro i x hi
  obtain ⟨a, h1, h2, h3, h4, h5⟩ := h i x hi
  exact ⟨a, h1, h2, sb_fr h3 (fun j _ h => hf j (by omega)), h4, h5⟩
theorem c_v0 {fr : Int32 → Int32 → Int32 → Bool → (Nat → UInt8) → Int32 → Int32 × Int32 × Int32 × Bool × (Nat → UInt8)} {pcnt pown p1 x4 vp vl : Int32} {pfix vf : Bool} {pst pen : Nat → Int32} {b : Nat → UInt8} {n : Nat} :
    tw_PA_value_h21 fr pcnt pfix pown pst pen p1 n 0 x4 vp vl vf b = (0, vp, vl, vf, b) := by
  cases n with
  | zero => rfl
  | succ n =>
    unfold tw_PA_value_h21
    split
    · rfl
    · split
      · rfl
      · rw [if_neg (show ¬ tw_ST_kindOf 0 = 4 by decide), if_neg (show ¬ tw_ST_kindOf 0 = 3 by decide)]
theorem c_vh {pst pen pix : Nat → Int32} {xs : List (List UInt8)} {pown : Int32} (hx : ∀ x ∈ xs, q_gs x) (hx8 : xs.length ≤ 8) :
    ∀ (d K M n j p t L : Nat) (k : UInt8) (v : List UInt8) (b : Nat → UInt8) (p1 : Int32), q_ok d k v → sb b p v → p < t → p + v.length ≤ t → t + v.length ≤ L → L ≤ 202000 → 2000 ≤ t → v.length ≤ 2005 → q_pa b pst pen pix xs → j ≤ xs.length → (k = 4 → xs.length ≤ j + K) → xs.length ≤ j + 1 + K → xs.length < j + n → d < M →
    q_cv L t (p + v.length) v.length b (tw_PA_value_h21 (fun j vplace vlimit vfull b y => tw_PA_rowk (iN xs.length) false pown pst pen K j vplace vlimit vfull b y) (iN xs.length) false pown pst pen p1 n (iN (32 * p + k.toNat)) (iN j) (iN t) (iN L) false b) (q_va M (xs.drop j) (k, v)) := by
  intro d
  induction d with
  | zero =>
    intro K M n j p t L k v b p1 ho h hpt hvt hvL hL ht0 hv hpa hj hK4 hK hn hM
    obtain ⟨n, rfl⟩ : ∃ m, n = m + 1 := ⟨n - 1, by omega⟩
    obtain ⟨M, rfl⟩ : ∃ m, M = m + 1 := ⟨M - 1, by omega⟩
    have kn := q_okn ho
    have k3 : k ≠ 3 := fun e => q_lfk ho (Or.inl e)
    have k4 : k ≠ 4 := fun e => q_lfk ho (Or.inr e)
    have kd := q_k31 (p := p) (by omega) kn.1
    unfold tw_PA_value_h21
    by_cases hjl : j = xs.length
    · have e : xs.drop j = [] := by
        rw [hjl]
        exact List.drop_length
      rw [e, q_van, if_pos (by rw [hjl]; exact Int32.le_refl _)]
      exact ⟨p, t, b, rfl, h, fun _ _ => rfl, Or.inr ⟨hpt, Nat.le_refl _, Nat.le_refl _, rfl, rfl⟩, by omega, by omega⟩
    · rw [List.drop_eq_getElem_cons (by omega), q_vas, if_neg (show ¬ k = 3 from k3), if_neg (show ¬ k = 4 from k4), if_neg (by simp (disch := omega) only [iN_a, iN_c, iN_le, iN_lt, iN_eq, iN_i]; omega), if_neg (by simp (disch := omega) only [i_8, iN_a, iN_c, iN_le, iN_lt, iN_eq, iN_i]; omega), kd, i_4, qy_4, if_neg k4, i_3, qy_3, if_neg k3]
      rfl
  | succ d ih =>
    intro K M n j p t L k v b p1 ho h hpt hvt hvL hL ht0 hv hpa hj hK4 hK hn hM
    obtain ⟨n, rfl⟩ : ∃ m, n = m + 1 := ⟨n - 1, by omega⟩
    obtain ⟨M, rfl⟩ : ∃ m, M = m + 1 := ⟨M - 1, by omega⟩
    have kn := q_okn ho
    have kd := q_k31 (p := p) (by omega) kn.1
    unfold tw_PA_value_h21
    by_cases hjl : j = xs.length
    · have e : xs.drop j = [] := by
        rw [hjl]
        exact List.drop_length
      rw [e, q_van, if_pos (by rw [hjl]; exact Int32.le_refl _)]
      exact ⟨p, t, b, rfl, h, fun _ _ => rfl, Or.inr ⟨hpt, Nat.le_refl _, Nat.le_refl _, rfl, rfl⟩, by omega, by omega⟩
    · have jl : j < xs.length := by omega
      rw [List.drop_eq_getElem_cons jl, q_vas, if_neg (by simp (disch := omega) only [iN_a, iN_c, iN_le, iN_lt, iN_eq, iN_i]; omega), if_neg (by simp (disch := omega) only [i_8, iN_a, iN_c, iN_le, iN_lt, iN_eq, iN_i]; omega), kd, i_4, qy_4, i_3, qy_3]
      by_cases kb : k = 3 ∨ k = 4
      · obtain ⟨e1, ps, he, rfl, o1, nk⟩ := q_okd ho kb
        obtain rfl : e1 = d := by omega
        have psb := q_psb o1 (show (q_bx ps).length < 4294967296 by omega)
        simp only [psb]
        have bl := q_bxl ps
        have pl := q_psl ps
        by_cases k3 : k = 3
        · have k4 : ¬ k = 4 := by
            rw [k3]
            decide
          obtain ⟨a, pa1, pa2, pa3, pa4, pa5⟩ := hpa j xs[j] (List.getElem?_eq_getElem jl)
          have fi := q_fi (x := xs[j]) kb h o1 (by omega) (by omega) pa3 (by omega)
          rw [if_neg k4, if_pos k3, if_pos (show k = 3 from k3), iN_c (by omega), pa1, pa2, fi, show iN j + 1 = iN (j + 1) from iN_a j 1]
          cases hy : q_fn xs[j] ps with
          | none =>
            rw [show q_fv (p + 4) none = 0 from rfl, c_v0]
            rfl
          | some y =>
            obtain ⟨f1, f2, a2, c2, f3, f4⟩ := q_fnm (o := y.1) (y := y.2) hy
            have il := q_inl (a := a2) (c := c2) (x := y.2)
            rw [← f3, ← f4] at il
            have hin : sb b (p + 4 + y.1) (q_e1 y.2) := by
              have h' := h
              rw [f3] at h'
              have := sb_in h'
              rwa [← f4] at this
            have s1 := sb_e1 hin
            obtain ⟨o2, o3⟩ := o1 y.2 f1
            have I := ih K M n (j + 1) (p + 4 + y.1 + y.2.2.1.length + 2) t L y.2.1 y.2.2.2 b p1 o3 s1.2.2.2 (by omega) (by omega) (by omega) hL ht0 (by omega) hpa (by omega) (fun _ => by omega) (by omega) (by omega) (by omega)
            rw [show q_fv (p + 4) (some y) = iN (32 * (p + 4 + y.1 + y.2.2.1.length + 2) + y.2.1.toNat) from rfl]
            dsimp only
            generalize q_va M (xs.drop (j + 1)) (y.2.1, y.2.2.2) = Z at I ⊢
            cases Z with
            | none => exact I
            | some z =>
              obtain ⟨P, t', b', I1, I2, I3, I4, I5, I6⟩ := I
              refine ⟨P, t', b', I1, I2, I3, ?_, by omega, I6⟩
              rcases I4 with I4 | ⟨g1, g2, g0, g3, g4⟩
              · exact Or.inl I4
              · exact Or.inr ⟨g1, by omega, by omega, g3, g4⟩
        · have k4 : k = 4 := by
            rcases kb with q | q
            · exact absurd q k3
            · exact q
          have KK := hK4 k4
          obtain ⟨K, rfl⟩ : ∃ m, K = m + 1 := ⟨K - 1, by omega⟩
          rw [if_pos k4, if_neg (show ¬ k = 3 from k3), if_pos (show k = 4 from k4)]
          obtain ⟨r, r1, r2⟩ := c_op (L := L) (t := t) (o := false) (b := b) (by omega) hL
          obtain ⟨c1, c2, c3⟩ := r2.2.2.2.1 ⟨rfl, by show t + 4 ≤ L; omega⟩
          replace c1 : r.1 = t + 4 := c1
          have h4 : sb r.2.2 p (q_bx ps) := sb_fr h (fun j h1 h2 => r2.1 j (by omega))
          have fb : ∀ y ∈ ps, ∀ z, (if y.1 = 3 then q_va M (xs[j] :: xs.drop (j + 1)) (y.1, y.2.2) else none) = some z → z.2.length ≤ y.2.2.length ∧ q_ok e1 z.1 z.2 := by
            intro y hy z hz
            have := q_enm hy
            split at hz
            · exact q_vap e1 M y.1 y.2.2 _ z (o1 y hy).2 (by omega) hz
            · cases hz
          obtain ⟨b', L1, L2, L3, L4⟩ := c_rv_h (L := L) (T := t) (d := e1) (p1 := iN j) (fv := fun vplace vlimit vfull b x => tw_PA_value (fun j vplace vlimit vfull b y => tw_PA_rowk (iN xs.length) false pown pst pen K j vplace vlimit vfull b y) (iN xs.length) false pown pst pen vplace vlimit vfull b x (iN j))
            (f := fun y => if y.1 = 3 then q_va M (xs[j] :: xs.drop (j + 1)) (y.1, y.2.2) else none) (b0 := r.2.2) hL ps (p + 4) (((((1000 : Nat) : Int) - ((0 : Nat) : Int)).toNat) + 1) 0 (t + 4) [] r.2.2 (sb_bx h4).2.1 o1 (nk.2 k4) (by omega) (by omega) (by omega) (Nat.le_refl _) (by omega) rfl (by omega) c3 (fun _ _ => rfl)
            (fun y _ q => if_neg q) (fun y hy z hz => ⟨(fb y hy z hz).1, e1, (fb y hy z hz).2⟩) (by
              intro y hy y3 t' p' b'' u1 u2 u3 u4 u5 u6
              have := q_enm hy
              rw [if_pos y3]
              have mx : (if iN j < 0 then 0 else iN j) = iN j := if_neg (by simp (disch := omega) only [i_0, iN_a, iN_c, iN_le, iN_lt, iN_eq, iN_i]; omega)
              have I := ih K M ((((8 : Int32).toInt - (iN j).toInt).toNat) + 1) j p' t' L y.1 y.2.2 b'' (iN j) (o1 y hy).2 u1 (by omega) (by omega) u5 hL (by omega) (by omega) (q_paf hpa (fun i hi => by rw [u6 i (by omega), r2.1 i (by omega)])) (by omega) (fun q => by rw [y3] at q; exact absurd q (by decide)) (by omega) (by rw [i_8, iN_i (by omega), iN_i (by omega)]; omega) (by omega)
              rw [List.drop_eq_getElem_cons jl, y3] at I
              unfold tw_PA_value
              rw [if_pos (show b2i false = 0 from rfl), mx, y3]
              exact I)
          rw [List.nil_append] at L1 L2 L4
          have RW : tw_PA_rowk (iN xs.length) false pown pst pen (K + 1) (iN j) (iN t) (iN L) false b (iN (32 * p + k.toNat)) = (iN (32 * t + 4), iN (t + (q_bx (q_rn 0 (ps.filterMap (fun y => if y.1 = 3 then q_va M (xs[j] :: xs.drop (j + 1)) (y.1, y.2.2) else none)))).length), iN L, false, b') := by
            refine Eq.trans ?_ L1
            conv => lhs; unfold tw_PA_rowk tw_PA_rowOfValues
            rw [r1, q_tp5]
            dsimp only
            rw [q_eo4 (sb_bx h4).1 (by omega) (by omega) kb]
            unfold tw_ST_placeOf
            simp (disch := omega) only [i_0, i_1, i_4, i_5, i_31, i_1000, q_p, iN_a, iN_c, iN_le, iN_lt, iN_eq, iN_i, iN_s]
            rw [show p + ((q_en ps).length + 5) - 1 = p + 4 + (q_en ps).length by omega, c1, c2]
            rfl
          rw [RW]
          have blw := q_bxl (q_rn 0 (ps.filterMap (fun y => if y.1 = 3 then q_va M (xs[j] :: xs.drop (j + 1)) (y.1, y.2.2) else none)))
          have z0 : (q_en (q_rn 0 ([] : List q_V))).length = 0 := rfl
          refine ⟨t, _, b', rfl, L2, fun i hi => by rw [L3 i hi, r2.1 i hi], Or.inl ⟨rfl, rfl, rfl⟩, ?_, ?_⟩
          · show t + (q_bx _).length ≤ t + (q_bx ps).length
            omega
          · show t + (q_bx _).length ≤ L
            omega
      · have k3 : ¬ k = 3 := fun q => kb (Or.inl q)
        have k4 : ¬ k = 4 := fun q => kb (Or.inr q)
        rw [if_neg k4, if_neg k3, if_neg (show ¬ k = 3 from k3), if_neg (show ¬ k = 4 from k4)]
        rfl
/-- the VALUE at a document -/
def q_vD (xs : List (List UInt8)) (v : List UInt8) : Option q_V := q_va 26 xs (3, v)
theorem c_vD {pst pen pix : Nat → Int32} {xs : List (List UInt8)} {pown : Int32} {d p t L : Nat} {v : List UInt8} {b : Nat → UInt8} (hx : ∀ x ∈ xs, q_gs x) (hx8 : xs.length ≤ 8) (ho : q_ok d 3 v) (hd : d ≤ 20) (h : sb b p v) (hp : p < t) (hvt : p + v.length ≤ t) (hvL : t + v.length ≤ L) (hL : L ≤ 202000) (ht : 2000 ≤ t) (hv : v.length ≤ 2000) (hpa : q_pa b pst pen pix xs) :
    q_cv L t (p + v.length) v.length b (tw_PA_val0 (iN xs.length) false pown pst pen (iN t) (iN L) false b (iN (32 * p + 3))) (q_vD xs v) := by
  have := c_vh (pown := pown) hx hx8 d 8 26 ((((8 : Int32).toInt - (0 : Int32).toInt).toNat) + 1) 0 p t L 3 v b 0 ho h hp hvt hvL hL ht (by omega) hpa (by omega) (fun _ => by omega) (by omega) (by rw [show (((8 : Int32).toInt - (0 : Int32).toInt).toNat) = 8 from rfl]; omega) (by omega)
  rw [List.drop_zero] at this
  exact this
theorem r_vD {fu g m s a d : Nat} {xs : List (List UInt8)} {v : List UInt8} {st : Nat → Int32} (hfu : 2500 ≤ fu) (hg : g + m ≤ 136400) (hx : ∀ x ∈ xs, q_gs x) (ho : q_ok d 3 v) (hd : d ≤ 20) (h : sm st a v) (hat : a + v.length ≤ g) (hm : v.length ≤ m) (hv : v.length ≤ 2000) (hs : q_sq st s xs) (hs2 : xs ≠ [] → g + m ≤ s) :
    q_em g m g st (tw_MO_emt0 fu (iN g) (iN m) (iN g) false st 3 (iN a) (iN (q_st s xs))) (q_vD xs v) :=
  r_em hfu hg d 26 26 s a g 3 v xs st ho h hat (Nat.le_refl _) (by omega) (by omega) hx hs hs2 (by omega) (by omega)
