/-! the pure part: the reference's fault of a stage -/
def q_flr (x : q_P) : Nat :=
  match q_wn x.2.1 with
  | 1 => q_ft1 x.1 x.2.2
  | 2 => q_ft2 x.1 x.2.2
  | 3 => q_ft3 x.1 x.2.2
  | 4 => q_ft4 x.1 x.2.2
  | 5 => if (q_lo x.1 x.2.2).isSome = true then 0 else 2
  | 6 => if (q_lo x.1 x.2.2).isSome = true then 0 else 2
  | 7 => q_ft7 x.1 x.2.2
  | _ => 1
theorem q_flrn {x : q_P} {F : List (List UInt8)} (h : q_flr x ≠ 0) : q_flt x F = q_flr x := by
  unfold q_flr at h ⊢
  unfold q_flt
  have w8 := q_wn8 x.2.1
  generalize q_wn x.2.1 = w at h w8
  rcases (show w = 0 ∨ w = 1 ∨ w = 2 ∨ w = 3 ∨ w = 4 ∨ w = 5 ∨ w = 6 ∨ w = 7 by omega) with rfl | rfl | rfl | rfl | rfl | rfl | rfl | rfl
  · rfl
  · rfl
  · rfl
  · exact if_neg h
  · rfl
  · rfl
  · rfl
  · rfl
theorem q_flrz {x : q_P} {F : List (List UInt8)} (h : q_flr x = 0) : q_flt x F = if q_wn x.2.1 = 3 ∧ q_hld (q_gk (q_x0 x.2.2) F) F (q_ps x.2.2).tail = false then 4 else 0 := by
  unfold q_flr at h
  unfold q_flt
  have w8 := q_wn8 x.2.1
  generalize q_wn x.2.1 = w at h w8
  rcases (show w = 0 ∨ w = 1 ∨ w = 2 ∨ w = 3 ∨ w = 4 ∨ w = 5 ∨ w = 6 ∨ w = 7 by omega) with rfl | rfl | rfl | rfl | rfl | rfl | rfl | rfl
  · cases h
  · refine Eq.trans ?_ (if_neg (fun q => absurd q.1 (by decide))).symm
    exact h
  · refine Eq.trans ?_ (if_neg (fun q => absurd q.1 (by decide))).symm
    exact h
  · show (if q_ft3 x.1 x.2.2 = 0 then _ else _) = _
    have h : q_ft3 x.1 x.2.2 = 0 := h
    rw [if_pos h]
    cases q_hld (q_gk (q_x0 x.2.2) F) F (q_ps x.2.2).tail
    · rfl
    · rfl
  · refine Eq.trans ?_ (if_neg (fun q => absurd q.1 (by decide))).symm
    exact h
  · refine Eq.trans ?_ (if_neg (fun q => absurd q.1 (by decide))).symm
    exact h
  · refine Eq.trans ?_ (if_neg (fun q => absurd q.1 (by decide))).symm
    exact h
  · refine Eq.trans ?_ (if_neg (fun q => absurd q.1 (by decide))).symm
    exact h
theorem r_sgf {fu d e : Nat} {st : Nat → Int32} {x : q_P} (hf : 2500 ≤ fu) (h : sm st e (q_e1 x)) (hm : (0 : UInt8) ∉ x.2.1) (ho : q_ok d x.1 x.2.2) (he0 : 0 < e) (he : e + (q_e1 x).length ≤ 136400) (hl : (q_e1 x).length ≤ 2000) : tw_MO_stageFault fu st (iN e) = some (iN (q_flr x)) := by
  have el := q_e1l x
  have s1 := sm_e1 h
  have hv := s1.2.2.2
  unfold tw_MO_stageFault
  rw [r_so h hm (by omega) (by omega), obs1, r_vo h hm (by omega) (by omega), obs1]
  have w8 := q_wn8 x.2.1
  unfold q_flr
  generalize q_wn x.2.1 = w at w8
  have D : x.1 = 3 → ∃ d' ps, x.2.2 = q_bx ps ∧ q_op d' ps ∧ q_ps x.2.2 = ps := by
    intro k3
    rw [k3] at ho
    obtain ⟨d', ps, _, e1, e2, _⟩ := q_okd ho (Or.inl rfl)
    exact ⟨d', ps, e1, e2, by rw [e1]; exact q_psb e2 (by rw [← e1]; omega)⟩
  have L : (0 : Int32) ≤ iN e ∧ iN e < 136400 := by
    simp (disch := omega) only [i_0, i_136400, iN_a, iN_c, iN_le, iN_lt, iN_eq, iN_i]
    omega
  rcases (show w = 0 ∨ w = 1 ∨ w = 2 ∨ w = 3 ∨ w = 4 ∨ w = 5 ∨ w = 6 ∨ w = 7 by omega) with rfl | rfl | rfl | rfl | rfl | rfl | rfl | rfl
  · rfl
  · rw [if_neg (show ¬ iN 1 = 0 by decide), if_pos (show iN 1 = 1 from rfl), if_pos L, iN_c (by omega), s1.1, i_3, qy_3]
    show _ = some (iN (q_ft1 x.1 x.2.2))
    unfold q_ft1
    by_cases k3 : x.1 = 3
    · obtain ⟨d', ps, e1, e2, e3⟩ := D k3
      rw [e1] at hv el
      rw [if_pos k3, if_pos k3, r_pjf hv e2 (by omega) (by omega) hf, obs1, e3]
    · rw [if_neg k3, if_neg k3]
      rfl
  · rw [if_neg (show ¬ iN 2 = 0 by decide), if_neg (show ¬ iN 2 = 1 by decide), if_pos (show iN 2 = 2 from rfl), r_iep h hm ho he (by omega) hf, obs1, r_xf h hm ho he (by omega) hf, obs1]
    show _ = some (iN (q_ft2 x.1 x.2.2))
    unfold q_ft2 q_xf
    cases q_ex x.1 x.2.2
    · rfl
    · rfl
  · rw [if_neg (show ¬ iN 3 = 0 by decide), if_neg (show ¬ iN 3 = 1 by decide), if_neg (show ¬ iN 3 = 2 by decide), if_pos (show iN 3 = 3 from rfl), if_pos L, iN_c (by omega), s1.1, i_3, qy_3]
    show _ = some (iN (q_ft3 x.1 x.2.2))
    unfold q_ft3
    by_cases k3 : x.1 = 3
    · obtain ⟨d', ps, e1, e2, e3⟩ := D k3
      rw [e1] at hv el
      rw [if_pos k3, if_pos k3, r_gfo hv e2 (by omega) (by omega) hf, obs1, e3]
    · rw [if_neg k3, if_neg k3]
      rfl
  · rw [if_neg (show ¬ iN 4 = 0 by decide), if_neg (show ¬ iN 4 = 1 by decide), if_neg (show ¬ iN 4 = 2 by decide), if_neg (show ¬ iN 4 = 3 by decide), if_pos (show iN 4 = 4 from rfl), if_pos L, iN_c (by omega), s1.1, i_3, qy_3]
    show _ = some (iN (q_ft4 x.1 x.2.2))
    unfold q_ft4
    by_cases k3 : x.1 = 3
    · obtain ⟨d', ps, e1, e2, e3⟩ := D k3
      rw [e1] at hv el
      rw [if_pos k3, if_pos k3, r_sf hv e2 (by omega) (by omega) hf, obs1, e3]
    · rw [if_neg k3, if_neg k3]
      rfl
  · rw [if_neg (show ¬ iN 5 = 0 by decide), if_neg (show ¬ iN 5 = 1 by decide), if_neg (show ¬ iN 5 = 2 by decide), if_neg (show ¬ iN 5 = 3 by decide), if_neg (show ¬ iN 5 = 4 by decide), if_neg (show ¬ iN 5 = 7 by decide), if_pos L, iN_c (by omega), s1.1]
    show _ = some (iN (if (q_lo x.1 x.2.2).isSome = true then 0 else 2))
    have tail : (if (lg_cmp (q_nu x.1 x.2.2) 0) < 0 then some (2 : Int32) else some 0) = some (iN (if 0 ≤ (q_nu x.1 x.2.2).toInt then 0 else 2)) := by
      by_cases z : 0 ≤ (q_nu x.1 x.2.2).toInt
      · rw [if_pos z, if_neg (by rw [q_lgl]; show ¬ _ < (0 : Int); omega)]
        rfl
      · rw [if_neg z, if_pos (by rw [q_lgl]; show _ < (0 : Int); omega)]
        rfl
    have lo2 : q_cl x.1 = 2 → (if (q_lo x.1 x.2.2).isSome = true then 0 else 2) = if 0 ≤ (q_nu x.1 x.2.2).toInt then 0 else 2 := by
      intro cl
      by_cases z : 0 ≤ (q_nu x.1 x.2.2).toInt
      · have lq : q_lo x.1 x.2.2 = some (q_nu x.1 x.2.2).toInt.toNat := if_pos ⟨cl, z⟩
        rw [lq, if_pos z]
        rfl
      · have lq : q_lo x.1 x.2.2 = none := if_neg (fun q => z q.2)
        rw [lq, if_neg z]
        rfl
    rw [i_16, i_18, qy_16, qy_18]
    by_cases k16 : x.1 = 16
    · have cl : q_cl x.1 = 2 := q_cl2.2 (Or.inl k16)
      rw [if_pos k16, r_num ho (Or.inl cl) hv (by omega) (by omega), obs1, tail, lo2 cl]
    rw [if_neg k16]
    by_cases k18 : x.1 = 18
    · have cl : q_cl x.1 = 2 := q_cl2.2 (Or.inr k18)
      rw [if_pos k18, r_num ho (Or.inl cl) hv (by omega) (by omega), obs1, tail, lo2 cl]
    rw [if_neg k18]
    have lo : q_lo x.1 x.2.2 = none := by
      unfold q_lo
      rw [if_neg (fun q => by exact (q_cl2.1 q.1).elim k16 k18)]
    rw [lo]
    rfl
  · rw [if_neg (show ¬ iN 6 = 0 by decide), if_neg (show ¬ iN 6 = 1 by decide), if_neg (show ¬ iN 6 = 2 by decide), if_neg (show ¬ iN 6 = 3 by decide), if_neg (show ¬ iN 6 = 4 by decide), if_neg (show ¬ iN 6 = 7 by decide), if_pos L, iN_c (by omega), s1.1]
    show _ = some (iN (if (q_lo x.1 x.2.2).isSome = true then 0 else 2))
    have tail : (if (lg_cmp (q_nu x.1 x.2.2) 0) < 0 then some (2 : Int32) else some 0) = some (iN (if 0 ≤ (q_nu x.1 x.2.2).toInt then 0 else 2)) := by
      by_cases z : 0 ≤ (q_nu x.1 x.2.2).toInt
      · rw [if_pos z, if_neg (by rw [q_lgl]; show ¬ _ < (0 : Int); omega)]
        rfl
      · rw [if_neg z, if_pos (by rw [q_lgl]; show _ < (0 : Int); omega)]
        rfl
    have lo2 : q_cl x.1 = 2 → (if (q_lo x.1 x.2.2).isSome = true then 0 else 2) = if 0 ≤ (q_nu x.1 x.2.2).toInt then 0 else 2 := by
      intro cl
      by_cases z : 0 ≤ (q_nu x.1 x.2.2).toInt
      · have lq : q_lo x.1 x.2.2 = some (q_nu x.1 x.2.2).toInt.toNat := if_pos ⟨cl, z⟩
        rw [lq, if_pos z]
        rfl
      · have lq : q_lo x.1 x.2.2 = none := if_neg (fun q => z q.2)
        rw [lq, if_neg z]
        rfl
    rw [i_16, i_18, qy_16, qy_18]
    by_cases k16 : x.1 = 16
    · have cl : q_cl x.1 = 2 := q_cl2.2 (Or.inl k16)
      rw [if_pos k16, r_num ho (Or.inl cl) hv (by omega) (by omega), obs1, tail, lo2 cl]
    rw [if_neg k16]
    by_cases k18 : x.1 = 18
    · have cl : q_cl x.1 = 2 := q_cl2.2 (Or.inr k18)
      rw [if_pos k18, r_num ho (Or.inl cl) hv (by omega) (by omega), obs1, tail, lo2 cl]
    rw [if_neg k18]
    have lo : q_lo x.1 x.2.2 = none := by
      unfold q_lo
      rw [if_neg (fun q => by exact (q_cl2.1 q.1).elim k16 k18)]
    rw [lo]
    rfl
  · rw [if_neg (show ¬ iN 7 = 0 by decide), if_neg (show ¬ iN 7 = 1 by decide), if_neg (show ¬ iN 7 = 2 by decide), if_neg (show ¬ iN 7 = 3 by decide), if_neg (show ¬ iN 7 = 4 by decide), if_pos (show iN 7 = 7 from rfl), if_pos L, iN_c (by omega), s1.1, i_3, qy_3]
    show _ = some (iN (q_ft7 x.1 x.2.2))
    unfold q_ft7
    by_cases k3 : x.1 = 3
    · obtain ⟨d', ps, e1, e2, e3⟩ := D k3
      rw [e1] at hv el
      rw [if_pos k3, if_pos k3, r_lkf hf hv e2 (by omega) (by omega) (by omega), obs1, e3]
    · rw [if_neg k3, if_neg k3]
      rfl
