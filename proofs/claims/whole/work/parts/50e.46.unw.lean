/-! the pure part: what a path of documents leads to -/
def q_th : List (List UInt8) → q_V → Option q_V
  | [], v => some v
  | x :: xs, v => if v.1 = 3 then (match q_fn x (q_ps v.2) with | none => none | some y => q_th xs (y.2.1, y.2.2.2)) else none
theorem q_thc (x : List UInt8) (xs : List (List UInt8)) (v : q_V) : q_th (x :: xs) v = if v.1 = 3 then (match q_fn x (q_ps v.2) with | none => none | some y => q_th xs (y.2.1, y.2.2.2)) else none := rfl
theorem q_nd1 {ps : List q_P} {y u : q_P} (h : (ps.map (fun x => x.2.1)).Nodup) (hy : y ∈ ps) (hu : u ∈ ps) (e : y.2.1 = u.2.1) : y = u := by
  induction ps with
  | nil => cases hy
  | cons a r ih =>
    rw [List.map_cons, List.nodup_cons] at h
    rcases List.mem_cons.1 hy with ey | hy2
    · rcases List.mem_cons.1 hu with eu | hu2
      · rw [ey, eu]
      · exact absurd (List.mem_map.2 ⟨u, hu2, by rw [← e, ey]⟩) h.1
    · rcases List.mem_cons.1 hu with eu | hu2
      · exact absurd (List.mem_map.2 ⟨y, hy2, by rw [e, eu]⟩) h.1
      · exact ih h.2 hy2 hu2
theorem q_thn : ∀ (xs : List (List UInt8)) (d : Nat) (ps : List q_P) (w : q_V), q_ok d 3 (q_bx ps) → q_op d ps → (q_bx ps).length ≤ 2000 → q_th xs (3, q_bx ps) = some w → q_tc xs ps := by
  intro xs
  induction xs with
  | nil => exact fun _ _ _ _ _ _ _ => trivial
  | cons x xs ih =>
    intro d ps w hok ho hl h hne y hy hx
    obtain ⟨e, ps', he, eb, o1, o2⟩ := q_okd hok (Or.inl rfl)
    have epp : ps = ps' := by
      have a1 := q_psb ho (show (q_bx ps).length < 4294967296 by omega)
      have a2 := q_psb' eb o1 (by rw [← eb]; omega)
      rw [← a1, a2]
    subst epp
    rw [q_thc, if_pos rfl, q_psb ho (by omega)] at h
    cases hq : q_fn x ps with
    | none =>
      rw [hq] at h
      cases h
    | some u =>
      rw [hq] at h
      obtain ⟨f1, f2, _⟩ := q_fnm (o := u.1) (y := u.2) hq
      have yu := q_nd1 (o2.1 rfl) hy f1 (hx.trans f2.symm)
      subst yu
      replace h : q_th xs (u.2.1, u.2.2.2) = some w := h
      cases xs with
      | nil => exact absurd rfl hne
      | cons x2 xs2 =>
        have h' := h
        rw [q_thc] at h'
        by_cases y3 : u.2.1 = 3
        rotate_left
        · rw [if_neg y3] at h'
          cases h'
        refine ⟨y3, ?_⟩
        have hb := (o1 u.2 hy).2
        have ml := q_enm hy
        have bl := q_bxl ps
        rw [y3] at hb h
        obtain ⟨e2, ps2, he2, ey, o3, o4⟩ := q_okd hb (Or.inl rfl)
        have yl : u.2.2.2.length = (q_bx ps2).length := by rw [ey]
        rw [ey] at hb h
        rw [q_psb' ey o3 (by omega)]
        exact ih e ps2 w hb (q_opm o3 (by omega)) (by omega) h
theorem q_r1n (x : List UInt8) (z : q_V) (f : Option (List UInt8 → List UInt8)) (y : q_P) : (q_r1 x z f y).2.1 = y.2.1 := by
  unfold q_r1
  split
  · cases f <;> rfl
  · rfl
theorem q_rpo {z : q_V} : ∀ (xs : List (List UInt8)) (d : Nat) (v : List UInt8) (w : q_V), xs ≠ [] → q_ok d 3 v → v.length ≤ 2000 → q_th xs (3, v) = some w → (∀ d', q_ok d' w.1 w.2 → q_ok d' z.1 z.2) → q_ok d 3 (q_rpl z xs v) := by
  intro xs
  induction xs with
  | nil => exact fun _ _ _ q => absurd rfl q
  | cons x xs ih =>
    intro d v w _ hok hl h hz
    obtain ⟨e, ps, rfl, rfl, o1, o2⟩ := q_okd hok (Or.inl rfl)
    rw [q_thc, if_pos rfl, q_psb o1 (by omega)] at h
    rw [q_rpc, q_psb o1 (by omega)]
    have bl := q_bxl ps
    cases hq : q_fn x ps with
    | none =>
      rw [hq] at h
      cases h
    | some u =>
      rw [hq] at h
      obtain ⟨f1, f2, _⟩ := q_fnm (o := u.1) (y := u.2) hq
      replace h : q_th xs (u.2.1, u.2.2.2) = some w := h
      refine q_okb (Or.inl rfl) ?_ ⟨fun _ => ?_, fun q => absurd q (by decide)⟩
      · intro t ht
        obtain ⟨y, hy, rfl⟩ := List.mem_map.1 ht
        refine ⟨by rw [q_r1n]; exact (o1 y hy).1, ?_⟩
        unfold q_r1
        by_cases cx : y.2.1 = x
        rotate_left
        · rw [if_neg cx]
          exact (o1 y hy).2
        rw [if_pos cx]
        have yu := q_nd1 (o2.1 rfl) hy f1 (cx.trans f2.symm)
        subst yu
        have hb := (o1 u.2 hy).2
        have ml := q_enm hy
        cases xs with
        | nil =>
          cases h
          exact hz e hb
        | cons x2 xs2 =>
          have h' := h
          rw [q_thc] at h'
          by_cases y3 : u.2.1 = 3
          rotate_left
          · rw [if_neg y3] at h'
            cases h'
          rw [y3] at hb h
          exact ih e u.2.2.2 w (by simp) hb (by omega) h hz
      · rw [List.map_map]
        have : ((fun x => x.2.1) ∘ q_r1 x z (if xs.isEmpty = true then none else some (q_rpl z xs))) = (fun y : q_P => y.2.1) := by
          funext y
          exact q_r1n _ _ _ _
        rw [this]
        exact o2.1 rfl
def q_uw (xs : List (List UInt8)) (doc : List UInt8) : List (List UInt8) :=
  match q_th xs (3, doc) with
  | none => []
  | some w => if w.1 = 4 then (q_ps w.2).map (fun y => q_rpl (y.1, y.2.2) xs doc) else if w.1 = 10 then [] else [doc]
