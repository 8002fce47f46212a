/-! the pure part: the class unwinds one row -/
theorem c_ur {fb nb k A d P E : Nat} {fcnt : Int32} {fsts pst pen pix pho : Nat → Int32} {F : List (List UInt8)} {D x : List UInt8} {xs : List (List UInt8)} {ts : List Nat} {w : q_V} (hd : fb + 40000 ≤ nb ∨ nb + 40000 ≤ fb) (hk : F[k]? = some D) (h8 : xs.length + 1 ≤ 8) (hP : P = fb + q_pf F k)
    (hdn : q_dn (x :: xs) P (3, D) = some (ts, A, w)) (hpho : ∀ i q, ts[i]? = some q → pho i = iN q) (hw : q_ok d w.1 w.2) (hE : E ≤ P + D.length) (hE2 : E < 122000) :
    ∀ (qs : List q_P) (e n i : Nat) (b : Nat → UInt8) (place limit : Int32) (full : Bool) (ncnt : Int32) (nsts : Nat → Int32) (N : List (List UInt8)), (∀ y ∈ qs, y.2.2.length ≤ w.2.length ∧ ∀ d', q_ok d' w.1 w.2 → q_ok d' y.1 y.2.2) → sb b e (q_en qs) → q_op d qs → P ≤ e → E = e + (q_en qs).length → qs.length < n → i + qs.length ≤ 1000 → q_pa b pst pen pix (x :: xs) → q_be b fb fcnt fsts F → q_be b nb ncnt nsts N →
    ∃ pl l f b' c s M, tw_SH_unwindRow_h22 (iN fb) (iN nb) fcnt fsts (iN (xs.length + 1)) pst pen pho (iN k) (iN (32 * A + w.1.toNat)) (iN E) n (iN e) (iN i) place limit full b ncnt nsts = ((q_run (some N) (qs.map (fun y => q_rpl (y.1, y.2.2) (x :: xs) D))).isSome, pl, l, f, b', c, s) ∧ q_be b' nb c s M ∧ (∀ R, q_run (some N) (qs.map (fun y => q_rpl (y.1, y.2.2) (x :: xs) D)) = some R → M = R) ∧ (∀ j, j < nb ∨ nb + 40000 ≤ j → b' j = b j) := by
  intro qs
  induction qs with
  | nil =>
    intro e n i b place limit full ncnt nsts N _ _ _ _ he hn hi _ hb h
    obtain ⟨n, rfl⟩ : ∃ m, n = m + 1 := ⟨n - 1, by omega⟩
    simp only [q_en, List.length_nil, Nat.add_zero] at he
    subst he
    unfold tw_SH_unwindRow_h22
    rw [if_pos (Int32.le_refl _), ite_self]
    exact ⟨_, _, _, _, _, _, N, rfl, h, (fun R q => by cases q; rfl), fun _ _ => rfl⟩
  | cons y qs ih =>
    intro e n i b place limit full ncnt nsts N hy hq ho hPe he hn hi hpa hb h
    rw [List.length_cons] at hn hi
    obtain ⟨n, rfl⟩ : ∃ m, n = m + 1 := ⟨n - 1, by omega⟩
    obtain ⟨h1, h2⟩ := sb_en hq
    obtain ⟨hm, hyo⟩ := ho y List.mem_cons_self
    obtain ⟨y1, y2⟩ := hy y List.mem_cons_self
    have e1 := q_e1l y
    have e2 := q_enl y qs
    have ky := (q_okn hyo).1
    have s1 := sb_e1 h1
    obtain ⟨d1, d2, d3, d4⟩ := q_bed hb hk
    have F2 := hb.2.2.2.1.2.1
    have F5 := hb.2.2.2.2.1
    have F6 := hb.2.2.2.2.2
    have N6 := h.2.2.2.2.2
    subst hP
    obtain ⟨r, w1, w2⟩ := c_wu (z := (y.1, y.2.2)) (Z := e + y.2.1.length + 2) (place := place) (limit := limit) (full := full) hb h hd hk hpa h8 hdn hpho hw hyo s1.2.2.2 (by omega) (by show _ + y.2.2.length ≤ _; omega) y1
    have th : q_th (x :: xs) (3, D) = some w := by
      rw [← q_dnt (x :: xs) (fb + q_pf F k) (3, D), hdn]
      rfl
    have ok := q_rpo (z := (y.1, y.2.2)) (x :: xs) 16 D w (by simp) d2 d3 th y2
    obtain ⟨c', s', a1, a2⟩ := c_acc (limit := iN (q_nL nb N)) h w2 ok (by omega)
    obtain ⟨_, n2, n3, n4⟩ := c_next (place := place) (limit := limit) (full := full) h
    have fr : ∀ j, j < nb ∨ nb + 40000 ≤ j → r.2.2 j = b j := fun j hj => w2.1 j (by omega)
    have eo : tw_ST_endOf r.2.2 (iN (32 * (e + y.2.1.length + 2) + y.1.toNat)) = iN (e + (q_e1 y).length) := by
      rw [q_eo hyo (sb_fr s1.2.2.2 (fun j u v => fr j (by omega))) (by omega)]
      exact congrArg iN (by omega)
    unfold tw_SH_unwindRow_h22
    rw [if_neg (by simp (disch := omega) only [i_1000, iN_a, iN_c, iN_le, iN_lt, iN_eq, iN_i]; omega), if_neg (by simp (disch := omega) only [iN_a, iN_c, iN_le, iN_lt, iN_eq, iN_i]; omega), q_vo h1 ky hm (by omega), w1, show (iN r.1, iN (q_nL nb N), r.2.1, r.2.2) = q_e4 (q_nL nb N) r from rfl, q_t4e, a1, q_tp3, List.map_cons, q_runc]
    dsimp only
    rw [eo, show iN i + 1 = iN (i + 1) from iN_a i 1]
    cases hmr : q_more (some N) (q_rpl (y.1, y.2.2) (x :: xs) D) with
    | none =>
      rw [hmr] at a2
      rw [q_runn, if_pos (show b2i (none : Option (List (List UInt8))).isSome = 0 from rfl)]
      exact ⟨_, _, _, _, _, _, N, rfl, a2, (fun R q => by cases q), fr⟩
    | some N' =>
      rw [hmr] at a2
      rw [if_neg (show ¬ b2i (some N').isSome = 0 from (by decide : ¬ b2i true = 0))]
      obtain ⟨pl2, l2, f2, b2, c2, s2, M, t1, t2, t3, t4⟩ := ih (e + (q_e1 y).length) n (i + 1) r.2.2 (iN r.1) (iN (q_nL nb N)) r.2.1 c' s' N' (fun u hu => hy u (List.mem_cons_of_mem _ hu)) (sb_fr h2 (fun j u v => fr j (by omega))) (fun u hu => ho u (List.mem_cons_of_mem _ hu)) (by omega) (by omega) (by omega) (by omega) (q_paf hpa (fun j hj => fr j (by omega))) (q_bef hb (fun j u v => fr j (by omega))) a2
      exact ⟨pl2, l2, f2, b2, c2, s2, M, t1, t2, t3, fun j hj => (t4 j hj).trans (fr j hj)⟩
