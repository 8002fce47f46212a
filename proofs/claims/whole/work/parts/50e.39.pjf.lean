/-! the pure part: what is wrong with a $project -/
def q_pjf : List q_P → Nat
  | [] => 0
  | x :: r => if q_pln x.2.1 = true then (if q_xf x.1 x.2.2 = 0 then q_pjf r else 3) else 2
theorem q_pjfc (x : q_P) (r : List q_P) : q_pjf (x :: r) = if q_pln x.2.1 = true then (if q_xf x.1 x.2.2 = 0 then q_pjf r else 3) else 2 := rfl
def q_pf1 (ps : List q_P) : Nat := match ps with | [] => 2 | x :: r => q_pjf (x :: r)
theorem q_tp7 {T1 T2 T3 T4 T5 T6 T7 Z : Type} (q : T1 × T2 × T3 × T4 × T5 × T6 × T7) (f : T1 → T2 → T3 → T4 → T5 → T6 → T7 → Z) : tp7 q f = f q.1 q.2.1 q.2.2.1 q.2.2.2.1 q.2.2.2.2.1 q.2.2.2.2.2.1 q.2.2.2.2.2.2 := rfl
theorem c_pjf_h {b : Nat → UInt8} {d P : Nat} (hP : P < 2000) : ∀ (ps : List q_P) (e n i : Nat) (pcnt pown : Int32) (pfix : Bool) (pst pen pix : Nat → Int32), sb b e (q_en ps) → q_op d ps → P = e + (q_en ps).length → ps.length < n → i + ps.length ≤ 1000 →
    ∃ pc pf po ps' pe px, tw_SH_faultOfProject_h43 b (iN P) n (iN e) (iN i) pcnt pfix pown pst pen pix = (iN (q_pjf ps), pc, pf, po, ps', pe, px) := by
  intro ps
  induction ps with
  | nil =>
    intro e n i pcnt pown pfix pst pen pix _ _ he hn hi
    obtain ⟨n, rfl⟩ : ∃ m, n = m + 1 := ⟨n - 1, by omega⟩
    simp only [q_en, List.length_nil, Nat.add_zero] at he
    subst he
    unfold tw_SH_faultOfProject_h43
    rw [if_pos (Int32.le_refl _), ite_self]
    exact ⟨_, _, _, _, _, _, rfl⟩
  | cons x r ih =>
    intro e n i pcnt pown pfix pst pen pix h ho he hn hi
    obtain ⟨n, rfl⟩ : ∃ m, n = m + 1 := ⟨n - 1, by omega⟩
    obtain ⟨h1, h2⟩ := sb_en h
    obtain ⟨ha, hb⟩ := ho x List.mem_cons_self
    have e1 := q_e1l x
    have e2 := q_enl x r
    have kx := (q_okn hb).1
    have s1 := sb_e1 h1
    rw [List.length_cons] at *
    have pl2 : tw_ST_placeOf (iN (32 * (e + x.2.1.length + 2) + x.1.toNat)) = iN (e + x.2.1.length + 2) := q_p (by omega) kx
    unfold tw_SH_faultOfProject_h43
    rw [if_neg (by simp (disch := omega) only [i_1000, iN_a, iN_c, iN_le, iN_lt, iN_eq, iN_i]; omega), if_neg (by simp (disch := omega) only [iN_a, iN_c, iN_le, iN_lt, iN_eq, iN_i]; omega), q_vo h1 kx ha (by omega), q_eo hb s1.2.2.2 (by omega), pl2, iN_s1 (by omega), show e + x.2.1.length + 2 - 1 = e + 1 + x.2.1.length by omega, show iN e + 1 = iN (e + 1) from iN_a e 1, c_pl s1.2.1 (by omega), q_pjfc]
    cases c : q_pln x.2.1
    · rw [if_pos (show b2i false = 0 from rfl), if_neg (by decide)]
      exact ⟨_, _, _, _, _, _, rfl⟩
    rw [if_neg (show ¬ b2i true = 0 by decide), if_pos rfl]
    obtain ⟨r1, r2⟩ := c_re (pcnt := pcnt) (pown := pown) (pfix := pfix) (pst := pst) (pen := pen) (pix := pix) hb s1.2.2.2 (by omega)
    rw [q_tp7]
    by_cases c2 : q_xf x.1 x.2.2 = 0
    · obtain ⟨pc, pf, po, ps', pe, px, t1, _⟩ := r1 c2
      rw [if_pos c2, t1]
      rw [if_neg (show ¬ b2i true = 0 by decide), show iN i + 1 = iN (i + 1) from iN_a i 1, show e + x.2.1.length + 2 + x.2.2.length = e + (q_e1 x).length by omega]
      exact ih (e + (q_e1 x).length) n (i + 1) _ _ _ _ _ _ h2 (fun y hy => ho y (List.mem_cons_of_mem _ hy)) (by omega) (by omega) (by omega)
    · rw [r2 c2, if_neg c2, if_pos (show b2i false = 0 from rfl)]
      exact ⟨_, _, _, _, _, _, rfl⟩
theorem c_pjf {b : Nat → UInt8} {D p : Nat} {k : UInt8} {v : List UInt8} {pcnt pown : Int32} {pfix : Bool} {pst pen pix : Nat → Int32} (ho : q_ok D k v) (h : sb b p v) (hp : p + v.length ≤ 2000) :
    ∃ pc pf po ps' pe px, tw_SH_faultOfProject b pcnt pfix pown pst pen pix (iN (32 * p + k.toNat)) = (iN (if k = 3 then q_pf1 (q_ps v) else 2), pc, pf, po, ps', pe, px) := by
  have kk := (q_okn ho).1
  unfold tw_SH_faultOfProject
  rw [show tw_ST_kindOf (iN (32 * p + k.toNat)) = iN k.toNat from q_k (by omega) kk]
  by_cases c : k = 3
  rotate_left
  · rw [if_neg c, if_neg (fun z => c (by rw [show (3 : Int32) = iN 3 from rfl, iN_eq (by omega) (by omega)] at z; rw [q_ko k 3 (by omega)] at z; exact z))]
    exact ⟨_, _, _, _, _, _, rfl⟩
  subst c
  obtain ⟨e, ps, _, rfl, o1, o2⟩ := q_okd ho (Or.inl rfl)
  have bl := q_bxl ps
  have pl := q_psl ps
  have eo := q_eo (b := b) (p := p) ho h (by omega)
  rw [if_pos (show iN (3 : UInt8).toNat = 3 from rfl), if_pos rfl, q_cp (Or.inl rfl) h o1 (by omega) (by omega), q_psb o1 (by omega)]
  cases ps with
  | nil =>
    rw [if_neg (by decide)]
    exact ⟨_, _, _, _, _, _, rfl⟩
  | cons x r =>
    rw [List.length_cons] at pl
    rw [if_pos (by rw [List.length_cons]; simp (disch := omega) only [i_1, iN_a, iN_c, iN_le, iN_lt, iN_eq, iN_i]; omega), eo, iN_s1 (by omega), show tw_ST_placeOf (iN (32 * p + (3 : UInt8).toNat)) = iN p from q_p (by omega) kk, show iN p + 4 = iN (p + 4) from iN_a p 4, show (0 : Int32) = iN 0 from rfl]
    exact c_pjf_h (P := p + (q_bx (x :: r)).length - 1) (by omega) (x :: r) (p + 4) _ 0 _ _ _ _ _ _ (sb_bx h).2.1 o1 (by omega) (by rw [List.length_cons, show ((1000 : Int32).toInt - (iN 0).toInt).toNat + 1 = 1001 from rfl]; omega) (by rw [List.length_cons]; omega)
theorem r_ipn {fu e : Nat} {st : Nat → Int32} {x : q_P} (h : sm st e (q_e1 x)) (hm : (0 : UInt8) ∉ x.2.1) (he : e + x.2.1.length + 2 ≤ 136400) (hf : x.2.1.length + 5 ≤ fu) : tw_MO_isPlainName fu st (iN e) = some (q_pln x.2.1) := by
  have s1 := sm_e1 h
  unfold tw_MO_isPlainName
  rw [r_ne h hm (by omega) (by omega), obs1, iN_s (by omega), iN_s1 (by omega), show e + x.2.1.length + 1 - e - 1 = x.2.1.length by omega, show iN e + 1 = iN (e + 1) from iN_a e 1, r_pl2 s1.2.1 (by omega) (by omega) (by omega), obs1]
theorem r_pjf_h {fu d : Nat} {st : Nat → Int32} {K : Int32 → Option Int32} (hK : ∀ x, K x = some 0) (hf : 2500 ≤ fu) : ∀ (ps : List q_P) (e n : Nat), sm st e (q_en ps ++ [0]) → q_op d ps → 0 < e → e + (q_en ps).length < 136400 → (q_en ps).length ≤ 2000 → ps.length < n →
    tw_MO_projectFault_h16 fu K st n (iN (q_pt e ps)) = some (iN (q_pjf ps)) := by
  intro ps
  induction ps with
  | nil =>
    intro e n _ _ _ _ _ hn
    obtain ⟨n, rfl⟩ : ∃ m, n = m + 1 := ⟨n - 1, by omega⟩
    show K 0 = _
    exact hK _
  | cons x r ih =>
    intro e n h ho he hp hl hn
    obtain ⟨n, rfl⟩ : ∃ m, n = m + 1 := ⟨n - 1, by omega⟩
    have h2 := (sm_en h).2
    have h1 := (sm_en h).1
    obtain ⟨hm, hb⟩ := ho x List.mem_cons_self
    have e1 := q_e1l x
    have e2 := q_enl x r
    rw [List.length_cons] at hn
    unfold tw_MO_projectFault_h16
    rw [q_ptc, if_neg (by simp (disch := omega) only [i_0, iN_a, iN_c, iN_le, iN_lt, iN_eq, iN_i]; omega), r_ipn h1 hm (by omega) (by omega), obs1, r_xf h1 hm hb (by omega) (by omega) hf, obs1, r_no h ho hp (by omega), obs1, q_pjfc, ih _ n h2 (fun y hy => ho y (List.mem_cons_of_mem _ hy)) (by omega) (by omega) (by omega) (by omega)]
    cases c : q_pln x.2.1
    · rw [if_pos (show b2i false = 0 from rfl), if_neg (by decide)]
      rfl
    rw [if_neg (show ¬ b2i true = 0 by decide), if_pos rfl]
    by_cases c2 : q_xf x.1 x.2.2 = 0
    · rw [if_pos c2, c2, if_pos (by decide)]
    · have c3 : q_xf x.1 x.2.2 = 3 := by
        unfold q_xf at c2 ⊢
        split
        · next z =>
          rw [if_pos z] at c2
          split
          · next w => exact absurd (if_pos w) c2
          · rfl
        · next z => exact absurd (if_neg z) c2
      rw [if_neg c2, c3, if_neg (by decide)]
      rfl
theorem r_pjf {fu d p : Nat} {st : Nat → Int32} {ps : List q_P} (h : sm st p (q_bx ps)) (ho : q_op d ps) (hp : p + (q_bx ps).length ≤ 136400) (hl : (q_bx ps).length ≤ 2000) (hf : 2500 ≤ fu) :
    tw_MO_projectFault fu st (iN p) = some (iN (q_pf1 ps)) := by
  have bl := q_bxl ps
  have pl := q_psl ps
  unfold tw_MO_projectFault
  rw [r_co h ho hp (by omega) hf, obs1, r_fo h ho (by omega), obs1]
  cases ps with
  | nil => rfl
  | cons x r =>
    rw [List.length_cons] at pl
    rw [if_neg (by rw [List.length_cons]; simp (disch := omega) only [i_0, iN_a, iN_c, iN_le, iN_lt, iN_eq, iN_i]; omega)]
    exact r_pjf_h (fun _ => rfl) hf (x :: r) (p + 4) fu (sm_ap.1 h).2 ho (by omega) (by omega) (by omega) (by rw [List.length_cons]; omega)
