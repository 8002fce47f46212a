/-! the pure part: the reference's $project -/
theorem r_sn_h {fu d e : Nat} {st : Nat → Int32} {K : Int32 → Option Int32} {x : q_P} (hK : ∀ a, K a = some 0) (hf : 2500 ≤ fu) (hx : sm st e (q_e1 x)) (hxm : (0 : UInt8) ∉ x.2.1) (hxe : e + (q_e1 x).length ≤ 136400) (hxl : (q_e1 x).length ≤ 2000) :
    ∀ (ps : List q_P) (a n : Nat), sm st a (q_en ps ++ [0]) → q_op d ps → 0 < a → a + (q_en ps).length < 136400 → (q_en ps).length ≤ 2000 → ps.length < n →
    tw_MO_sameName_h6 fu K st (iN e) n (iN (q_pt a ps)) = some (match q_fn x.2.1 ps with | none => 0 | some z => iN (a + z.1)) := by
  have exl := q_e1l x
  have sx := sm_e1 hx
  intro ps
  induction ps with
  | nil =>
    intro a n _ _ _ _ _ hn
    obtain ⟨n, rfl⟩ : ∃ m, n = m + 1 := ⟨n - 1, by omega⟩
    show K 0 = _
    exact hK _
  | cons y r ih =>
    intro a n h ho ha hp hl hn
    obtain ⟨n, rfl⟩ : ∃ m, n = m + 1 := ⟨n - 1, by omega⟩
    have h1 := (sm_en h).1
    have h2 := (sm_en h).2
    obtain ⟨hm, hb⟩ := ho y List.mem_cons_self
    have e1 := q_e1l y
    have e2 := q_enl y r
    have s1 := sm_e1 h1
    rw [List.length_cons] at hn
    unfold tw_MO_sameName_h6
    rw [q_ptc, if_neg (by simp (disch := omega) only [i_0, iN_a, iN_c, iN_le, iN_lt, iN_eq, iN_i]; omega), r_ne h1 hm (by omega) (by omega), obs1, r_ne hx hxm (by omega) (by omega), obs1, iN_s (by omega), iN_s1 (by omega), iN_s (by omega), iN_s1 (by omega), show a + y.2.1.length + 1 - a - 1 = y.2.1.length by omega, show e + x.2.1.length + 1 - e - 1 = x.2.1.length by omega, show iN a + 1 = iN (a + 1) from iN_a a 1, show iN e + 1 = iN (e + 1) from iN_a e 1, r_ob s1.2.1 sx.2.1 (by omega) (by omega) (by omega), obs1, q_fnc]
    by_cases c : y.2.1 = x.2.1
    · rw [if_pos (q_ob0.2 c), if_pos c]
      rfl
    · rw [if_neg (fun z => c (q_ob0.1 z)), if_neg c, r_no h ho hp (by omega), obs1, ih _ n h2 (fun z hz => ho z (List.mem_cons_of_mem _ hz)) (by omega) (by omega) (by omega) (by omega)]
      cases q_fn x.2.1 r with
      | none => rfl
      | some z =>
        show some (iN (a + (q_e1 y).length + z.1)) = some (iN (a + (z.1 + (q_e1 y).length)))
        exact congrArg (fun i => some (iN i)) (by omega)
theorem r_sn {fu d e p : Nat} {st : Nat → Int32} {x : q_P} {ds : List q_P} (hf : 2500 ≤ fu) (hx : sm st e (q_e1 x)) (hxm : (0 : UInt8) ∉ x.2.1) (hxe : e + (q_e1 x).length ≤ 136400) (hxl : (q_e1 x).length ≤ 2000) (h : sm st p (q_bx ds)) (ho : q_op d ds) (hp : p + (q_bx ds).length ≤ 136400) (hl : (q_bx ds).length ≤ 2000) :
    tw_MO_sameName fu st (iN p) (iN e) = some (match q_fn x.2.1 ds with | none => 0 | some z => iN (p + 4 + z.1)) := by
  have bl := q_bxl ds
  have pl := q_psl ds
  unfold tw_MO_sameName
  rw [r_fo h ho (by omega), obs1]
  exact r_sn_h (fun _ => rfl) hf hx hxm hxe hxl ds (p + 4) fu (sm_ap.1 h).2 ho (by omega) (by omega) (by omega) (by omega)
def q_ow (z : Option q_P) : List UInt8 := match z with | none => [] | some y => q_e1 y
theorem r_p29 {fu e k g d d2 P : Nat} {dcs frm : Nat → Int32} {K : Int32 → Int32 → Int32 → Int32 → Int32 → Bool → Bool → (Nat → Int32) → (Nat → Int32) → (Nat → Int32) → Option (Int32 × Int32 × Int32 × Int32 × Int32 × Bool × Bool × (Nat → Int32) × (Nat → Int32) × (Nat → Int32))} {x1 x3 frs frt : Int32} {tgr : Bool} {ffr fsz st0 : Nat → Int32} {x : q_P} {ds : List q_P} {w : List UInt8} {r : q_R} (hf : 2500 ≤ fu) (hg : 80000 ≤ g) (hg2 : g ≤ 120000) (hr : q_W g 2001 g false st0 ([0, 0, 0, 0] ++ w) r) (hk : k < 200) (hfr : frm k = iN P)
    (h : sm st0 e (q_e1 x)) (hm : (0 : UInt8) ∉ x.2.1) (ho : q_ok d x.1 x.2.2) (he : e + (q_e1 x).length ≤ 136400) (he2 : 128100 ≤ e) (hl : (q_e1 x).length ≤ 2000) (hx : q_xf x.1 x.2.2 = 0)
    (hd : q_op d2 ds) (hdd : q_ok (d2 + 1) 3 (q_bx ds)) (hd2 : d2 < 20) (hD : sm st0 P (q_bx ds)) (hP : P + (q_bx ds).length ≤ 80000) (hv : (q_bx ds).length ≤ 2000) :
    ∃ r' st1, tw_MO_project_r29 fu dcs frm K x1 (iN k) x3 (iN e) frs frt (iN r.1) (iN g) (iN 2001) r.2.1 tgr r.2.2 ffr fsz = K frs frt (iN r'.1) (iN g) (iN 2001) r'.2.1 tgr r'.2.2 ffr fsz ∧ (∀ j, j < 124000 ∨ 128100 ≤ j → st1 j = st0 j) ∧
      q_W g 2001 g false st1 ([0, 0, 0, 0] ++ (w ++ q_ow (q_pe1 ds (q_bx ds) x))) r' := by
  have kx := (q_okn ho).1
  have exl := q_e1l x
  have r2 := hr.2.1
  have r3 := hr.2.2.1
  have h' : sm r.2.2 e (q_e1 x) := sm_fr h (fun j u v => hr.1 j (by omega))
  have hD' : sm r.2.2 P (q_bx ds) := sm_fr hD (fun j u v => hr.1 j (by omega))
  have sx := sm_e1 h'
  obtain ⟨r', st1, v1, v2, v3⟩ := r_ve (y := x) hf hg hg2 hr h hm he2 he hl h hm ho he he2 hl hx hdd (by omega) hD hP hv
  have ve : ¬ (x.1 = 8 ∧ x.2.2 = [1]) → q_vw x.2.1 (q_xv x.1 x.2.2 (q_bx ds)) = q_ow (q_pe1 ds (q_bx ds) x) := by
    intro c
    unfold q_pe1 q_p1
    rw [if_neg c]
    cases q_xv x.1 x.2.2 (q_bx ds) <;> rfl
  have c400 : 0 ≤ iN k ∧ iN k < 400 := by
    simp (disch := omega) only [i_0, i_400, iN_a, iN_c, iN_le, iN_lt, iN_eq, iN_i]
    omega
  unfold tw_MO_project_r29
  rw [if_pos (by simp (disch := omega) only [i_0, i_136400, iN_a, iN_c, iN_le, iN_lt, iN_eq, iN_i]; omega), iN_c (by omega), sx.1, if_pos c400, iN_c (by omega), hfr, if_pos c400, v1, obs5, show (8 : Int32) = iN 8 from rfl, r_vo h' hm (by omega) (by omega), obs1]
  by_cases c8 : x.1 = 8
  rotate_left
  · rw [if_neg (fun z => c8 (by rw [iN_eq (by omega) (by omega), q_ko x.1 8 (by omega)] at z; exact z))]
    rw [ve (fun z => c8 z.1)] at v3
    exact ⟨r', st1, rfl, v2, v3⟩
  rw [if_pos (by rw [c8]; rfl)]
  have l8 : x.2.2 = [0] ∨ x.2.2 = [1] := by
    have l := q_okl ho (by rw [c8]; decide) (by rw [c8]; decide)
    unfold q_lf at l
    rcases l with ⟨e, _⟩ | ⟨e, _⟩ | ⟨_, e⟩ | ⟨e, _⟩ | ⟨e, _⟩
    · rw [c8] at e
      exact absurd e (by decide)
    · rw [c8] at e
      exact absurd e (by decide)
    · exact e
    · rw [c8] at e
      exact absurd e (by decide)
    · rw [c8] at e
      exact absurd e (by decide)
  have l1 : x.2.2.length = 1 := by
    rcases l8 with l8 | l8 <;> rw [l8] <;> rfl
  rw [if_pos (show 0 ≤ iN (e + x.2.1.length + 2) ∧ iN (e + x.2.1.length + 2) < 136400 by simp (disch := omega) only [i_0, i_136400, iN_a, iN_c, iN_le, iN_lt, iN_eq, iN_i]; omega), iN_c (by omega)]
  rcases l8 with l8 | l8
  · have b0 : r.2.2 (e + x.2.1.length + 2) = iN 0 := by
      have q := sx.2.2.2
      rw [l8] at q
      exact q.1
    rw [b0, if_neg (by decide)]
    rw [ve (fun z => by rw [l8] at z; exact absurd z.2 (by decide))] at v3
    exact ⟨r', st1, rfl, v2, v3⟩
  · have b1 : r.2.2 (e + x.2.1.length + 2) = iN 1 := by
      have q := sx.2.2.2
      rw [l8] at q
      exact q.1
    rw [b1, if_pos (by decide), r_sn hf h' hm he hl hD' hd (by omega) hv, obs1]
    unfold tw_MO_project_r70 q_pe1 q_p1
    rw [if_pos (show x.1 = 8 ∧ x.2.2 = [1] from ⟨c8, l8⟩)]
    cases hy : q_fn x.2.1 ds with
    | none =>
      rw [if_pos (show (0 : Int32) ≤ 0 by decide)]
      refine ⟨r, st0, rfl, fun _ _ => rfl, ?_⟩
      show q_W g 2001 g false st0 ([0, 0, 0, 0] ++ (w ++ [])) r
      rw [List.append_nil]
      exact hr
    | some y =>
      obtain ⟨f1, f2, a2, c2, f3, f4⟩ := q_fnm (o := y.1) (y := y.2) hy
      have il := q_inl (a := a2) (c := c2) (x := y.2)
      rw [← f3, ← f4] at il
      have bl := q_bxl ds
      have hin : sm r.2.2 (P + 4 + y.1) (q_e1 y.2) := by
        have h'' := hD'
        rw [f3] at h''
        have := sm_in h''
        rwa [← f4] at this
      have ely := q_e1l y.2
      obtain ⟨o2, o3⟩ := hd y.2 f1
      obtain ⟨s, s1, s2⟩ := r_ele (fu := fu) (g := g) (m := 2001) (t := r.1) (o := r.2.1) (by omega) r2 r3 hin o2 o3 (by omega) (by omega) (by omega)
      dsimp only
      rw [if_neg (by simp (disch := omega) only [i_0, iN_a, iN_c, iN_le, iN_lt, iN_eq, iN_i]; omega), s1, q_o3e]
      refine ⟨s, st0, rfl, fun _ _ => rfl, ?_⟩
      have W := q_Wa hr s2
      rw [List.append_assoc] at W
      have e : q_ow (((some y).map (fun z => (z.2.1, z.2.2.2)) : Option q_V).map (fun z => (z.1, x.2.1, z.2))) = q_e1 y.2 := by
        show q_e1 (y.2.1, x.2.1, y.2.2.2) = q_e1 y.2
        rw [← f2]
      rw [e]
      exact W
