/-! the pure part: how many leaves there are at most -/
def q_fb : Nat → Nat
  | 0 => 1
  | 1 => 2
  | n + 2 => q_fb (n + 1) + q_fb n
theorem q_fb1 : ∀ n, 1 ≤ q_fb n ∧ q_fb n ≤ q_fb (n + 1) := by
  intro n
  induction n with
  | zero => exact ⟨Nat.le_refl _, by decide⟩
  | succ n ih =>
    refine ⟨by omega, ?_⟩
    show q_fb (n + 1) ≤ q_fb (n + 1) + q_fb n
    omega
theorem q_fbm : ∀ {a c : Nat}, a ≤ c → q_fb a ≤ q_fb c := by
  intro a c h
  induction c with
  | zero =>
    have : a = 0 := by omega
    rw [this]
    exact Nat.le_refl _
  | succ c ih =>
    by_cases e : a = c + 1
    · rw [e]
      exact Nat.le_refl _
    · exact Nat.le_trans (ih (by omega)) (q_fb1 c).2
def q_sw : List q_P → Nat
  | [] => 0
  | x :: r => x.2.2.length + 3 + q_sw r
def q_sd : List q_P → Nat
  | [] => 0
  | x :: r => (if x.1 = 3 then x.2.2.length + 3 else 0) + q_sd r
theorem q_swl : ∀ (ps : List q_P) (i : Nat), q_nr i ps → q_sw ps ≤ (q_en ps).length := by
  intro ps
  induction ps with
  | nil => exact fun _ _ => Nat.le_refl _
  | cons x r ih =>
    intro i h
    have := ih (i + 1) h.2
    have : 0 < x.2.1.length := List.length_pos_iff.2 (h.1 ▸ q_dgn i)
    rw [q_enl]
    unfold q_sw
    omega
theorem q_sdw (ps : List q_P) : q_sd ps ≤ q_sw ps := by
  induction ps with
  | nil => exact Nat.le_refl _
  | cons x r ih =>
    unfold q_sd q_sw
    split <;> omega
theorem q_sws {y : q_P} {c : List q_P} : ∀ (a : List q_P), y.2.2.length + 3 ≤ q_sw (a ++ y :: c) ∧ (y.1 ≠ 3 → q_sd (a ++ y :: c) + (y.2.2.length + 3) ≤ q_sw (a ++ y :: c)) := by
  intro a
  induction a with
  | nil =>
    have := q_sdw c
    rw [List.nil_append]
    unfold q_sw q_sd
    refine ⟨by omega, fun q => ?_⟩
    rw [if_neg q]
    omega
  | cons x a ih =>
    rw [List.cons_append]
    unfold q_sw q_sd
    refine ⟨by omega, fun q => ?_⟩
    have := ih.2 q
    split <;> omega
theorem q_fml {g : q_L → List q_L} {c : Nat} : ∀ (ps : List q_P) (o : Nat), (∀ z ∈ q_lc o ps, z.2.1 = 3 → 3 * (g z).length ≤ c * (z.2.2.length + 3)) → 3 * (((q_lc o ps).filter (fun w => w.2.1 == 3)).flatMap g).length ≤ c * q_sd ps := by
  intro ps
  induction ps with
  | nil =>
    intro o _
    exact Nat.zero_le _
  | cons x r ih =>
    intro o h
    have el : q_lc o (x :: r) = (o + x.2.1.length + 2, x.1, x.2.2) :: q_lc (o + (q_e1 x).length) r := rfl
    rw [el] at h ⊢
    have IH := ih (o + (q_e1 x).length) (fun z hz => h z (List.mem_cons_of_mem _ hz))
    rw [List.filter_cons]
    unfold q_sd
    by_cases k3 : x.1 = 3
    · have t : ((o + x.2.1.length + 2, x.1, x.2.2) : q_L).2.1 == 3 := by
        show (x.1 == 3) = true
        simp [k3]
      rw [if_pos t, if_pos k3, List.flatMap_cons, List.length_append, Nat.mul_add, Nat.mul_add c]
      have := h _ List.mem_cons_self k3
      exact Nat.add_le_add this IH
    · have t : ¬ (((o + x.2.1.length + 2, x.1, x.2.2) : q_L).2.1 == 3) = true := by
        show ¬ (x.1 == 3) = true
        simp [k3]
      rw [if_neg t, if_neg k3, Nat.zero_add]
      exact IH
theorem q_lvb : ∀ (m e o : Nat) (k : UInt8) (v : List UInt8) (xs : List (List UInt8)), q_ok e k v → v.length < 4294967296 → (∀ x ∈ xs, q_gs x) →
    3 * (q_lv m xs (o, k, v)).length ≤ q_fb xs.length * (v.length + 3) ∧ (k = 3 → xs ≠ [] → 3 * (q_lv m xs (o, k, v)).length ≤ q_fb (xs.length - 1) * (v.length + 3)) := by
  intro m
  induction m with
  | zero =>
    intro e o k v xs _ _ _
    have : q_lv 0 xs (o, k, v) = [] := by cases xs <;> rfl
    rw [this]
    exact ⟨Nat.zero_le _, fun _ _ => Nat.zero_le _⟩
  | succ m ih =>
    intro e o k v xs ho hv hx
    have one : ∀ n : Nat, 3 * 1 ≤ q_fb n * (v.length + 3) := fun n => Nat.le_trans (by omega) (Nat.mul_le_mul (q_fb1 n).1 (show 3 ≤ v.length + 3 by omega))
    cases xs with
    | nil =>
      refine ⟨?_, fun _ q => absurd rfl q⟩
      rw [q_lvn, List.length_cons]
      show 3 * ((if k = 4 then q_lc (o + 4) (q_ps v) else []).length + 1) ≤ 1 * (v.length + 3)
      by_cases k4 : k = 4
      · rw [if_pos k4]
        obtain ⟨e1, ps, he, rfl, o1, nk⟩ := q_okd ho (Or.inr k4)
        rw [q_psb o1 hv, q_lcl]
        have s1 := q_swl ps 0 (nk.2 k4)
        have s2 : 3 * ps.length ≤ q_sw ps := by
          clear s1 nk o1 ho hv one
          induction ps with
          | nil => exact Nat.le_refl _
          | cons x r ih =>
            unfold q_sw
            rw [List.length_cons]
            omega
        rw [q_bxl]
        omega
      · rw [if_neg k4, List.length_nil]
        omega
    | cons x xs =>
      have hx' : ∀ y ∈ xs, q_gs y := fun y hy => hx y (List.mem_cons_of_mem _ hy)
      rw [q_lvs, List.length_cons, Nat.add_sub_cancel]
      by_cases kb : k = 3 ∨ k = 4
      · obtain ⟨e1, ps, he, rfl, o1, nk⟩ := q_okd ho kb
        simp only [q_psb o1 hv]
        rw [q_bxl] at hv one ⊢
        by_cases k3 : k = 3
        · rw [if_pos (show k = 3 from k3)]
          have key : 3 * (match q_fn x ps with | none => [q_ms] | some y => q_lv m xs (o + 4 + y.1 + y.2.2.1.length + 2, y.2.1, y.2.2.2)).length ≤ q_fb xs.length * ((q_en ps).length + 5 + 3) := by
            cases hy : q_fn x ps with
            | none => exact one xs.length
            | some y =>
              obtain ⟨f1, f2, a, c2, f3, f4⟩ := q_fnm (o := y.1) (y := y.2) hy
              have := q_enm f1
              exact Nat.le_trans (ih e1 _ y.2.1 y.2.2.2 xs (o1 y.2 f1).2 (by omega) hx').1 (Nat.mul_le_mul_left _ (by omega))
          exact ⟨Nat.le_trans key (Nat.mul_le_mul_right _ (q_fb1 xs.length).2), fun _ _ => key⟩
        · have k4 : k = 4 := by
            rcases kb with q | q
            · exact absurd q k3
            · exact q
          refine ⟨?_, fun q => absurd q k3⟩
          rw [if_neg (show ¬ k = 3 from k3), if_pos (show k = 4 from k4), List.length_append, Nat.mul_add]
          have sl := q_swl ps 0 (nk.2 k4)
          have docs : 3 * (((q_lc (o + 4) ps).filter (fun w => w.2.1 == 3)).flatMap (q_lv m (x :: xs))).length ≤ q_fb xs.length * q_sd ps := by
            refine q_fml ps (o + 4) ?_
            intro z hz z3
            obtain ⟨a, y, c, h1, h2⟩ := q_lcn hz
            have ym : y ∈ ps := by
              rw [h1]
              simp
            have := q_enm ym
            subst h2
            exact (ih e1 _ y.1 y.2.2 (x :: xs) (o1 y ym).2 (by omega) hx).2 z3 (by simp)
          have fin : q_fb (xs.length + 1) * q_sw ps ≤ q_fb (xs.length + 1) * ((q_en ps).length + 5 + 3) := Nat.mul_le_mul_left _ (by omega)
          refine Nat.le_trans ?_ fin
          cases hy : q_fn x ps with
          | none =>
            show 3 * 0 + _ ≤ _
            have := Nat.mul_le_mul (q_fb1 xs.length).2 (q_sdw ps)
            omega
          | some y =>
            obtain ⟨f1, f2, a, c2, f3, f4⟩ := q_fnm (o := y.1) (y := y.2) hy
            have := q_enm f1
            have I := ih e1 (o + 4 + y.1 + y.2.2.1.length + 2) y.2.1 y.2.2.2 xs (o1 y.2 f1).2 (by omega) hx'
            obtain ⟨w1, w2⟩ := q_sws (y := y.2) (c := c2) a
            rw [← f3] at w1 w2
            dsimp only
            by_cases y3 : y.2.1 = 3
            · cases xs with
              | nil =>
                have i1 := I.1
                have dd := Nat.mul_le_mul_left (q_fb ([] : List (List UInt8)).length) (q_sdw ps)
                show _ ≤ 2 * q_sw ps
                have : q_fb ([] : List (List UInt8)).length = 1 := rfl
                rw [this] at i1 docs dd
                omega
              | cons x2 xs2 =>
                have i2 := I.2 y3 (by simp)
                rw [List.length_cons, Nat.add_sub_cancel] at i2
                rw [List.length_cons] at docs ⊢
                show _ ≤ (q_fb (xs2.length + 1) + q_fb xs2.length) * q_sw ps
                have t1 := Nat.mul_le_mul_left (q_fb xs2.length) w1
                have t2 := Nat.mul_le_mul_left (q_fb (xs2.length + 1)) (q_sdw ps)
                rw [Nat.add_mul]
                omega
            · have t := w2 y3
              have t1 := Nat.mul_le_mul (q_fb1 xs.length).2 t
              rw [Nat.mul_add] at t1
              have i1 := I.1
              omega
      · have e3 : ¬ k = 3 := fun q => kb (Or.inl q)
        have e4 : ¬ k = 4 := fun q => kb (Or.inr q)
        rw [if_neg (show ¬ k = 3 from e3), if_neg (show ¬ k = 4 from e4)]
        exact ⟨one (xs.length + 1), fun q => absurd q e3⟩
/-- the leaves of a document -/
def q_lD (xs : List (List UInt8)) (v : List UInt8) : List q_L := q_lv 26 xs (0, 3, v)
theorem q_lDb {xs : List (List UInt8)} {v : List UInt8} {e : Nat} (ho : q_ok e 3 v) (hv : v.length ≤ 2000) (hx : ∀ x ∈ xs, q_gs x) (hx0 : xs ≠ []) (hx8 : xs.length ≤ 8) : (q_lD xs v).length ≤ 29000 := by
  have := (q_lvb 26 e 0 3 v xs ho (by omega) hx).2 rfl hx0
  have h34 : q_fb (xs.length - 1) ≤ 34 := Nat.le_trans (q_fbm (show xs.length - 1 ≤ 7 by omega)) (by decide)
  have := Nat.mul_le_mul h34 (show v.length + 3 ≤ 2003 by omega)
  unfold q_lD
  omega
/-- the places in a document -/
def q_nD (v : List UInt8) : List q_L := q_nd 26 (0, 3, v)
theorem q_lDm {xs : List (List UInt8)} {v : List UInt8} {e : Nat} (ho : q_ok e 3 v) (he : e ≤ 26) (hv : v.length ≤ 2000) (hx : ∀ x ∈ xs, q_gs x) (hx0 : xs ≠ []) : ∀ z ∈ q_lD xs v, z = q_ms ∨ z ∈ q_nD v := by
  intro z hz
  rcases q_lvm 26 26 e 0 3 v xs z ho (by omega) he hx hz with h | ⟨h, _⟩ | h
  · exact Or.inl h
  · exact absurd h hx0
  · exact Or.inr h
theorem q_nDf {v : List UInt8} {e : Nat} (ho : q_ok e 3 v) (hv : v.length ≤ 2000) : (∀ w ∈ q_nD v, 0 < w.1 ∧ w.1 + w.2.2.length ≤ v.length ∧ w.2.1 ≠ 0) ∧ (q_nD v).Pairwise (fun a b => a.1 < b.1) ∧ 3 * (q_nD v).length ≤ v.length := by
  obtain ⟨h1, h2, h3⟩ := q_ndf 26 e 0 3 v ho (by omega)
  refine ⟨fun w hw => ?_, h2, h3⟩
  have := h1 w hw
  exact ⟨this.1, by omega, this.2.2⟩
/-- the leaves, each once -/
def q_lE (xs : List (List UInt8)) (v : List UInt8) : List q_L := q_dd [] (q_lD xs v)
theorem q_lEf {xs : List (List UInt8)} {v : List UInt8} {e : Nat} (ho : q_ok e 3 v) (he : e ≤ 26) (hv : v.length ≤ 2000) (hx : ∀ x ∈ xs, q_gs x) (hx0 : xs ≠ []) : (∀ w, w ∈ q_lE xs v ↔ w ∈ q_lD xs v) ∧ (q_lE xs v).Nodup ∧ 3 * (q_lE xs v).length ≤ v.length + 3 := by
  obtain ⟨n1, n2, n3⟩ := q_nDf ho hv
  have ac : q_ac (q_nD v) [] := ⟨(fun z hz => by cases hz), List.nodup_nil⟩
  obtain ⟨d1, d2⟩ := q_ddi n2 (fun w hw => (n1 w hw).2.2) (q_lD xs v) [] (q_lDm ho he hv hx hx0) ac
  refine ⟨fun w => by rw [show q_lE xs v = q_dd [] (q_lD xs v) from rfl, d2]; simp, d1.2, ?_⟩
  have := q_ndl (q_lE xs v) (q_ms :: q_nD v) d1.2 (by
    intro z hz
    rcases d1.1 z hz with h | h
    · rw [h]
      exact List.mem_cons_self
    · exact List.mem_cons_of_mem _ h)
  rw [List.length_cons] at this
  omega
theorem q_lEm {xs : List (List UInt8)} {v : List UInt8} {e : Nat} {B : q_L → q_L → Bool} (hB : ∀ a b d, B a b = true → B b d = true → B a d = true) (hi : ∀ a, B a a = false) (ho : q_ok e 3 v) (he : e ≤ 26) (hv : v.length ≤ 2000) (hx : ∀ x ∈ xs, q_gs x) (hx0 : xs ≠ []) :
    q_fm B (q_lE xs v) = q_fm B (q_lD xs v) := by
  obtain ⟨n1, n2, n3⟩ := q_nDf ho hv
  have ac : q_ac (q_nD v) [] := ⟨(fun z hz => by cases hz), List.nodup_nil⟩
  exact q_fmd hB hi n2 (fun w hw => (n1 w hw).2.2) (q_lD xs v) [] [] (q_lDm ho he hv hx hx0) ac (fun z => Iff.rfl) rfl
/-- the class's leaves of a document -/
theorem q_fl {b : Nat → UInt8} {p e : Nat} {psr plc pbs : Int32} {pms : Bool} {plv psn pst pen pix : Nat → Int32} {xs : List (List UInt8)} {v : List UInt8} (hp : p < 190000) (hx : ∀ x ∈ xs, q_gs x) (hx0 : xs ≠ []) (hx8 : xs.length ≤ 8) (hpa : q_pa b pst pen pix xs)
    (ho : q_ok e 3 v) (he : e ≤ 20) (h : sb b p v) (hv : v.length ≤ 2000) (hs : ∀ o, o < 2000 → psn o ≠ psr + 1) :
    ∃ plv' psn' pms', tw_PA_findLeaves (iN xs.length) b pst pen pix plc psr pbs pms plv psn (iN (32 * p + 3)) = (iN (q_lE xs v).length, psr + 1, iN p, pms', plv', psn') ∧ (∀ i z, (q_lE xs v)[i]? = some z → plv' i = q_rl p z) ∧ (∀ o, o < 2000 → psn' o = psr + 1 ∨ psn' o = psn o) := by
  obtain ⟨l1, l2, l3⟩ := q_lEf ho (by omega) hv hx hx0
  have S0 : q_ls p (psr + 1) psn [] (0, false, plv, psn) := by
    refine ⟨rfl, rfl, ?_, ?_, fun o => Or.inr rfl⟩
    · intro i z hz
      cases hz
    · intro o hoo
      constructor
      · intro q
        exact absurd q (hs o hoo)
      · intro q
        cases q
  have G := q_go (psr := psr + 1) hp hx hx8 hpa e 39 26 0 1 0 3 v [] 0 false plv psn ho h (by omega) (by omega) (by omega) (by omega) (by omega) (by omega) S0 (by
    show (q_lE xs v).length ≤ 1001
    omega)
  rw [List.drop_zero] at G
  replace G : q_ls p (psr + 1) psn (q_lE xs v) (tw_PA_go1 (iN xs.length) (psr + 1) (iN p) b pst pen pix 0 false plv psn (iN (32 * p + 3))) := G
  generalize hR : tw_PA_go1 (iN xs.length) (psr + 1) (iN p) b pst pen pix 0 false plv psn (iN (32 * p + 3)) = R at G
  obtain ⟨g1, g2, g3, g4, g5⟩ := G
  refine ⟨R.2.2.1, R.2.2.2, R.2.1, ?_, g3, fun o _ => g5 o⟩
  have pl : tw_ST_placeOf (iN (32 * p + 3)) = iN p := q_p (k := 3) (by omega) (by omega)
  unfold tw_PA_findLeaves
  rw [pl, hR, q_tp4, g1]
