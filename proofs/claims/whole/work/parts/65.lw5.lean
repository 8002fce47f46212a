/-! printed by wip/gen/p34.py: the law -/
set_option maxHeartbeats 4000000 in
set_option maxRecDepth 100000 in
theorem law_loop {p : Program} {l : Launch} {e : Env} {s : State} {m : MethodId} {below : List Frame} {meth : Method} {c : Code} {b0 L : Nat} {xs : Nat → Int32} {D : va_G} {cB cI : ClassId} (hL : L ≤ 3072) (C0 : LC p s m meth c b0 L xs D cB cI (fun q : Nat => s.heap.size ≤ q)) {aT aM : Nat} :
    ∀ (n i : Nat), 6 * i ≤ L → L + 1 ≤ 6 * i + n → ∀ (H : Heap) (locs : List Loc) (ls : Array Slot), LI D cB cI (fun q : Nat => s.heap.size ≤ q) aT aM i H → va_S (fun q : Nat => s.heap.size ≤ q) s.heap H locs → lv_has ls 4 [(0, .ref b0), (1, .ref aT), (2, .ref aM), (3, .int (iN (6 * i)))] → W p l e room_1 s m #[Value.ref b0] below meth c H locs 59 526912 (lw_Z below #[Value.ref b0] s) (F0 m 18 ls []) := by
  have C1 := C0
  obtain ⟨hx, hb, hr, hml, hown, hT, hX, hbl, hlocks, hk, hz, hzs, hAz, hA, hbA⟩ := C1
  intro n
  induction n with
  | zero =>
    intro i h1 h2
    exact absurd h2 (by omega)
  | succ n ih =>
    intro i h1 h2 H locs ls hI hS hl
    refine lv_iload_n hx hb d_law_18 rfl (lv_at hl 3 rfl) ?_
    refine lv_aload_n hx hb d_law_19 rfl (lv_at hl 0 rfl) ?_
    refine va_slen hx hb hX hbl hbA hS d_law_20 ?_
    refine lv_bipush (v := 6) hx hb d_law_21 (by decide) ?_
    refine lv_isub hx hb d_law_23 ?_
    have six : (6 : Int32).toInt = 6 := by decide
    have tl : (iN L).toInt = L := iN_i (by omega)
    have t1 : (iN L - 6).toInt = L - 6 := by
      rw [i_sub (by omega) (by omega), tl, six]
    have t2 : (iN (6 * i)).toInt = (6 * i : Nat) := iN_i (by omega)
    refine lv_icmp_gt (tgt := 348) hx hb d_law_24 (by decide) (fun c_1 => ?_) (fun c_1 => ?_)
    · refine lv_iconst (v := 1) hx hb d_law_348 (by decide) ?_
      refine va_forget (fun q hq => hS.2.2 q hq) ?_
      refine W.widen (k := 600000) (n := 7302249) (Nat.le_of_ble_eq_true rfl) (Nat.le_of_ble_eq_true rfl) ?_
      exact lw_ret hx hb hr hlocks d_law_349
    have c_2 : ¬ (iN L - 6).toInt < (iN (6 * i)).toInt := fun q => c_1 (Int32.lt_iff_toInt_lt.2 q)
    rw [t1, t2] at c_2
    have le : 6 * (i + 1) ≤ L := by omega
    have hin : ∀ k : Nat, k < 6 → vp_in (iN (6 * i) + iN k) L := by
      intro k hk6
      rw [iN_a]
      exact vp_in_nI (show 6 * i + k < L by omega) (by omega)
    have v1 : vp_in (iN (6 * i) + 1) L := hin 1 (by omega)
    have v2 : vp_in (iN (6 * i) + 2) L := hin 2 (by omega)
    have v3 : vp_in (iN (6 * i) + 3) L := hin 3 (by omega)
    have v4 : vp_in (iN (6 * i) + 4) L := hin 4 (by omega)
    have v5 : vp_in (iN (6 * i) + 5) L := hin 5 (by omega)
    have v0 : vp_in (iN (6 * i)) L := vp_in_nI (show 6 * i < L by omega) (by omega)
    have kk : ∀ (H : Heap) (locs : List Loc), LI D cB cI (fun q : Nat => s.heap.size ≤ q) aT aM (i + 1) H → va_S (fun q : Nat => s.heap.size ≤ q) s.heap H locs → W p l e room_1 s m #[Value.ref b0] below meth c H locs 59 526912 (lw_Z below #[Value.ref b0] s) (F0 m 342 ls []) := by
      intro H locs hI hS
      refine lv_iinc (v := iN (6 * (i + 1))) (lv' := [(3, .int (iN (6 * (i + 1)))), (0, .ref b0), (1, .ref aT), (2, .ref aM)]) hx hb d_law_342 hl (k := 3) rfl (by rw [show Int32.ofInt 6 = iN 6 by decide]; exact iN_a _ _) (by decide) rfl (fun ls hl => ?_)
      refine lv_goto (tgt := 18) hx hb d_law_345 (by decide) ?_
      exact ih (i + 1) le (by omega) H locs ls hI hS (lv_sub hl [1, 2, 3, 0] rfl)
    have hi : i ≤ 600 := by omega
    refine lv_aload_n hx hb d_law_27 rfl (lv_at hl 0 rfl) ?_
    refine lv_iload_n hx hb d_law_28 rfl (lv_at hl 3 rfl) ?_
    refine va_sld hx hb hX hbl hbA hS v0 d_law_29 ?_
    refine lv_bipush (v := 7) hx hb d_law_30 (by decide) ?_
    refine lv_iand hx hb d_law_32 ?_
    obtain ⟨k, k8, ek⟩ := lw_an7 (xs (iN (6 * i)).toNatClampNeg)
    rw [ek]
    rcases (show k = 0 ∨ k = 1 ∨ k = 2 ∨ k = 3 ∨ k = 4 ∨ k = 5 ∨ k = 6 ∨ k = 7 by omega) with rfl | rfl | rfl | rfl | rfl | rfl | rfl | rfl
    · refine lv_tableIn (off := 47) (tgt := 80) hx hb d_law_33 (by decide) (by decide) (by decide) (by decide) ?_
      exact lc_feed C0 hi v1 v2 v3 v4 v5 hl hI hS kk
    · refine lv_tableIn (off := 110) (tgt := 143) hx hb d_law_33 (by decide) (by decide) (by decide) (by decide) ?_
      exact lc_put C0 hi v1 v2 hl hI hS kk
    · refine lv_tableIn (off := 143) (tgt := 176) hx hb d_law_33 (by decide) (by decide) (by decide) (by decide) ?_
      exact lc_stage C0 hi v1 hl hI hS kk
    · refine lv_tableIn (off := 166) (tgt := 199) hx hb d_law_33 (by decide) (by decide) (by decide) (by decide) ?_
      exact lc_many C0 hi v1 v2 hl hI hS kk
    · refine lv_tableIn (off := 199) (tgt := 232) hx hb d_law_33 (by decide) (by decide) (by decide) (by decide) ?_
      exact lc_size C0 hi v1 v2 hl hI hS kk
    · refine lv_tableIn (off := 232) (tgt := 265) hx hb d_law_33 (by decide) (by decide) (by decide) (by decide) ?_
      exact lc_byteAt C0 hi v1 v2 v3 hl hI hS kk
    · refine lv_tableIn (off := 275) (tgt := 308) hx hb d_law_33 (by decide) (by decide) (by decide) (by decide) ?_
      exact lc_clear C0 hi v1 hl hI hS kk
    · refine lv_tableIn (off := 298) (tgt := 331) hx hb d_law_33 (by decide) (by decide) (by decide) (by decide) ?_
      exact lc_swap C0 hi  hl hI hS kk
