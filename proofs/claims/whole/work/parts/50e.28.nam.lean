/-! the pure part: names -/
def q_sn (i : Nat) : List UInt8 := (sByt.getD i []).map (fun x => UInt8.ofNat x.toNatClampNeg)
theorem q_snl : ∀ i, i < 19 → (q_sn i).length = sLen.getD i 0 ∧ (q_sn i).length < 10 := by decide +kernel
theorem q_sn0 : ∀ i, i < 19 → (0 : UInt8) ∉ q_sn i := by decide +kernel
theorem q_sch : ∀ i, i < 19 → ∀ k, k < (q_sn i).length → sch i (iN k) = iN ((q_sn i).getD k 0).toNat := by decide +kernel
theorem c_nd_h {b : Nat → UInt8} {a i : Nat} (hi : i < 19) : ∀ (l s : List UInt8) (k n : Nat), sb b (a + k) l → s = (q_sn i).drop k → l.length = s.length → k + s.length = (q_sn i).length → a + k + l.length < 202000 → l.length < n → tw_ST_named_h15 i b (iN a) n (iN k) = decide (l = s) := by
  intro l
  induction l with
  | nil =>
    intro s k n _ hs hl hk hp hn
    obtain ⟨n, rfl⟩ : ∃ m, n = m + 1 := ⟨n - 1, by omega⟩
    obtain ⟨g1, g2⟩ := q_snl i hi
    have sn : s = [] := List.eq_nil_of_length_eq_zero hl.symm
    rw [sn] at hk ⊢
    unfold tw_ST_named_h15
    rw [if_pos (show nI (sLen.getD i 0) ≤ iN k by show iN (sLen.getD i 0) ≤ iN k; rw [← g1, ← hk]; simp only [List.length_nil, Nat.add_zero]; exact Int32.le_refl _)]
    rfl
  | cons y l ih =>
    intro s k n h hs hl hk hp hn
    obtain ⟨n, rfl⟩ : ∃ m, n = m + 1 := ⟨n - 1, by omega⟩
    obtain ⟨g1, g2⟩ := q_snl i hi
    rw [List.length_cons] at hl hp hn
    have kl : k < (q_sn i).length := by omega
    rw [List.drop_eq_getElem_cons kl] at hs
    have uy := q_u8 y
    have sc := q_sch i hi k kl
    rw [List.getD_eq_getElem?_getD, List.getElem?_eq_getElem kl] at sc
    unfold tw_ST_named_h15
    rw [if_neg (show ¬ nI (sLen.getD i 0) ≤ iN k by show ¬ iN (sLen.getD i 0) ≤ iN k; rw [← g1, iN_le (by omega) (by omega)]; omega), show iN a + iN k = iN (a + k) from iN_a a k, q_at (by omega), h.1, sc, show iN k + 1 = iN (k + 1) from iN_a k 1]
    have us := q_u8 (q_sn i)[k]
    rw [hs]
    show (if iN y.toNat = iN ((q_sn i)[k]).toNat then _ else false) = _
    by_cases c : y = (q_sn i)[k]
    · rw [if_pos (by rw [c])]
      have hs2 := hs
      rw [hs, List.length_cons] at hl hk
      rw [ih ((q_sn i).drop (k + 1)) (k + 1) n (by rw [← Nat.add_assoc]; exact h.2) rfl (by omega) (by omega) (by omega) (by omega)]
      rw [c]
      refine decide_eq_decide.2 ⟨fun q => by rw [q], fun q => (List.cons.inj q).2⟩
    · rw [if_neg (fun q => c (UInt8.toNat_inj.1 ((iN_eq (by omega) (by omega)).1 q)))]
      exact (decide_eq_false (fun q => c (List.cons.inj q).1)).symm
theorem c_nd {b : Nat → UInt8} {a i : Nat} {l : List UInt8} (hi : i < 19) (h : sb b a l) (hp : a + l.length < 202000) : tw_ST_named i b (iN a) (iN (a + l.length)) = decide (l = q_sn i) := by
  obtain ⟨g1, g2⟩ := q_snl i hi
  unfold tw_ST_named
  have e : nI (sLen.getD i 0) = iN (q_sn i).length := by
    rw [g1]
    rfl
  rw [e, iN_s (by omega), show a + l.length - a = l.length by omega]
  by_cases c : l.length = (q_sn i).length
  · rw [if_pos (by rw [c]), i_0]
    exact c_nd_h hi l (q_sn i) 0 _ h rfl c (by omega) (by omega) (by rw [iN_i (by omega), iN_i (by omega)]; omega)
  · rw [if_neg (fun q => c ((iN_eq (by omega) (by omega)).1 q))]
    exact (decide_eq_false (fun q => c (by rw [q]))).symm
/-- the reference: letters packed into a number -/
theorem r_lt (y : UInt8) (a : Nat) (h : y.toNat + 256 * a < 9223372036854775808) : ((Int64.ofNat (y.toNat + 256 * a)) &&& 255).toInt32 = iN y.toNat ∧ (Int64.ofNat (y.toNat + 256 * a)) >>> ((8 : Int32).toInt64 &&& 63) = Int64.ofNat a := by
  have uy := q_u8 y
  constructor
  · apply q_bvi
    show ((BitVec.ofNat 64 (y.toNat + 256 * a) &&& (255 : Int64).toBitVec).signExtend 32).toNat = _
    rw [q_bv, BitVec.signExtend_eq_setWidth_of_le _ (by omega), BitVec.toNat_setWidth, BitVec.toNat_and, BitVec.toNat_ofNat]
    show (((y.toNat + 256 * a) % 18446744073709551616) &&& (2 ^ 8 - 1)) % 4294967296 = _
    rw [Nat.and_two_pow_sub_one_eq_mod]
    omega
  · apply q_lbv
    show ((BitVec.ofNat 64 (y.toNat + 256 * a)).sshiftRight 8).toNat = _
    rw [BitVec.sshiftRight_eq_of_msb_false, BitVec.toNat_ushiftRight, BitVec.toNat_ofNat, q_lb, Nat.shiftRight_eq_div_pow]
    · show (y.toNat + 256 * a) % 18446744073709551616 / 256 = a % 18446744073709551616
      omega
    · rw [BitVec.msb_eq_decide, BitVec.toNat_ofNat]
      simp
      omega
theorem r_lg {a : Nat} (h : a < 9223372036854775808) : (lg_cmp (Int64.ofNat a) 0 ≤ 0 ↔ a = 0) ∧ (lg_cmp (Int64.ofNat a) 0 = 0 ↔ a = 0) := by
  have t : (Int64.ofNat a).toInt = a := Int64.toInt_ofNat_of_lt h
  have z : (0 : Int64).toInt = 0 := rfl
  have g : lg_cmp (Int64.ofNat a) 0 = if a = 0 then 0 else 1 := by
    unfold lg_cmp
    by_cases c : a = 0
    · rw [if_pos c, c]
      rfl
    · rw [if_neg c, if_pos]
      show (0 : Int64) < Int64.ofNat a
      rw [Int64.lt_iff_toInt_lt, t, z]
      omega
  rw [g]
  by_cases c : a = 0
  · rw [if_pos c]
    exact ⟨⟨fun _ => c, fun _ => by decide⟩, ⟨fun _ => c, fun _ => rfl⟩⟩
  · rw [if_neg c]
    exact ⟨⟨fun q => absurd q (by decide), fun q => absurd q c⟩, ⟨fun q => absurd q (by decide), fun q => absurd q c⟩⟩
theorem q_nv0 {y : UInt8} {w : List UInt8} (h : y ≠ 0) : q_nv (y :: w) ≠ 0 := by
  have : y.toNat ≠ 0 := fun q => h (by rw [q_u8e q]; rfl)
  show y.toNat + 256 * q_nv w ≠ 0
  omega
theorem r_nd_h {fu : Nat} {K : Int64 → Int32 → Option Bool} {st : Nat → Int32} (hK : ∀ (a k : Nat), a < 9223372036854775808 → k < 136400 → K (Int64.ofNat a) (iN k) = if a = 0 then (if st k = iN 0 then some true else some false) else some false) :
    ∀ (w nm : List UInt8) (k n : Nat), sm st k (nm ++ [0]) → (0 : UInt8) ∉ nm → (0 : UInt8) ∉ w → q_nv w < 9223372036854775808 → k + nm.length < 136400 → w.length < n → tw_MO_isNamed_h8 fu K st n (Int64.ofNat (q_nv w)) (iN k) = some (decide (nm = w)) := by
  intro w
  induction w with
  | nil =>
    intro nm k n h hn0 _ _ hk hn
    obtain ⟨n, rfl⟩ : ∃ m, n = m + 1 := ⟨n - 1, by omega⟩
    unfold tw_MO_isNamed_h8
    rw [if_pos ((r_lg (a := q_nv []) (by decide)).1.2 rfl), hK _ _ (by decide) (by omega), if_pos (show q_nv [] = 0 from rfl)]
    cases nm with
    | nil =>
      have h0 : st k = iN 0 := h.1
      rw [if_pos h0]
      rfl
    | cons z nm =>
      have h0 : st k = iN z.toNat := h.1
      rw [h0, qy_0, if_neg (fun (q : z = 0) => hn0 (q ▸ List.mem_cons_self))]
      rfl
  | cons y w ih =>
    intro nm k n h hn0 hw0 hq hk hn
    obtain ⟨n, rfl⟩ : ∃ m, n = m + 1 := ⟨n - 1, by omega⟩
    rw [List.length_cons] at hn
    have y0 : y ≠ 0 := fun q => hw0 (q ▸ List.mem_cons_self)
    have nz := q_nv0 (w := w) y0
    have uy := q_u8 y
    have hq2 : y.toNat + 256 * q_nv w < 9223372036854775808 := hq
    obtain ⟨l1, l2⟩ := r_lt y (q_nv w) hq2
    unfold tw_MO_isNamed_h8
    rw [if_neg (fun q => nz ((r_lg hq).1.1 q)), if_pos (by simp (disch := omega) only [i_0, i_136400, iN_a, iN_c, iN_le, iN_lt, iN_eq, iN_i]; omega), iN_c (by omega)]
    rw [show q_nv (y :: w) = y.toNat + 256 * q_nv w from rfl] at nz ⊢
    rw [l1, l2, show iN k + 1 = iN (k + 1) from iN_a k 1]
    cases nm with
    | nil =>
      have h0 : st k = iN 0 := h.1
      rw [h0, if_neg (fun q => y0 (by have := (iN_eq (by omega) (by omega)).1 q; rw [q_u8e this.symm]; rfl)), hK _ _ hq2 (by omega), if_neg nz]
      rfl
    | cons z nm =>
      have h0 : st k = iN z.toNat := h.1
      have uz := q_u8 z
      rw [List.length_cons] at hk
      rw [h0]
      by_cases c : z = y
      · rw [if_pos (by rw [c]), ih nm (k + 1) n h.2 (fun q => hn0 (List.mem_cons_of_mem _ q)) (fun q => hw0 (List.mem_cons_of_mem _ q)) (by omega) (by omega) (by omega), c]
        exact congrArg some (decide_eq_decide.2 (by simp))
      · rw [if_neg (fun q => c (UInt8.toNat_inj.1 ((iN_eq (by omega) (by omega)).1 q))), hK _ _ hq2 (by omega), if_neg nz]
        exact congrArg some (decide_eq_false (fun q => c (List.cons.inj q).1)).symm
theorem r_nd {fu e : Nat} {st : Nat → Int32} {x : q_P} {w : List UInt8} {letters : Int64} (h : sm st e (q_e1 x)) (hm : (0 : UInt8) ∉ x.2.1) (he : e + x.2.1.length + 2 ≤ 136400) (hw : (0 : UInt8) ∉ w) (hq : q_nv w < 9223372036854775808) (hl : letters = Int64.ofNat (q_nv w)) (hf : w.length < fu) :
    tw_MO_isNamed fu st (iN e) letters = some (decide (x.2.1 = w)) := by
  obtain ⟨a1, a2, a3, _⟩ := sm_e1 h
  unfold tw_MO_isNamed
  rw [hl, show iN e + 1 = iN (e + 1) from iN_a e 1]
  refine r_nd_h (K := _) ?_ w x.2.1 (e + 1) fu (sm_ap.2 ⟨a2, a3, trivial⟩) hm hw hq (by omega) hf
  intro a k ha hk
  by_cases c : a = 0
  · rw [if_pos ((r_lg ha).2.2 c), if_pos c, if_pos (by simp (disch := omega) only [i_0, i_136400, iN_a, iN_c, iN_le, iN_lt, iN_eq, iN_i]; omega), iN_c (by omega)]
    rfl
  · rw [if_neg (fun q => c ((r_lg ha).2.1 q)), if_neg c]
/-- plain names -/
def q_pg : List UInt8 → Bool
  | [] => true
  | y :: l => if y = 46 then false else if y = 0 then false else q_pg l
def q_pln (l : List UInt8) : Bool := match l with
  | [] => false
  | y :: _ => if y = 36 then false else q_pg l
theorem c_pl_h {b : Nat → UInt8} {P : Nat} (hP : P < 202000) : ∀ (l : List UInt8) (x n : Nat), sb b x l → P = x + l.length → l.length < n → tw_ST_isPlain_h19 b (iN P) n (iN x) = q_pg l := by
  intro l
  induction l with
  | nil =>
    intro x n _ h2 hn
    obtain ⟨n, rfl⟩ : ∃ m, n = m + 1 := ⟨n - 1, by omega⟩
    simp only [List.length_nil, Nat.add_zero] at h2
    unfold tw_ST_isPlain_h19
    rw [if_pos (by simp (disch := omega) only [iN_a, iN_c, iN_le, iN_lt, iN_eq, iN_i]; omega)]
    rfl
  | cons y l ih =>
    intro x n h h2 hn
    obtain ⟨n, rfl⟩ : ∃ m, n = m + 1 := ⟨n - 1, by omega⟩
    rw [List.length_cons] at h2 hn
    unfold tw_ST_isPlain_h19
    rw [if_neg (by simp (disch := omega) only [iN_a, iN_c, iN_le, iN_lt, iN_eq, iN_i]; omega), q_at (by omega), h.1, show iN x + 1 = iN (x + 1) from iN_a x 1, ih (x + 1) n h.2 (by omega) (by omega), i_46, qy_46, i_0, qy_0]
    rfl
theorem c_pl {b : Nat → UInt8} {p : Nat} {l : List UInt8} (h : sb b p l) (hp : p + l.length < 202000) : tw_ST_isPlain b (iN p) (iN (p + l.length)) = q_pln l := by
  unfold tw_ST_isPlain
  cases l with
  | nil =>
    rw [if_pos (by simp)]
    rfl
  | cons y l =>
    rw [List.length_cons] at hp
    rw [if_neg (by simp (disch := omega) only [List.length_cons, iN_a, iN_c, iN_le, iN_lt, iN_eq, iN_i]; omega), q_at (by omega), h.1, i_36, qy_36, c_pl_h (by rw [List.length_cons]; omega) (y :: l) p _ h rfl (by rw [List.length_cons, iN_i (by omega), iN_i (by omega)]; omega)]
    rfl
theorem r_pl2_h {fu : Nat} {K : Bool → Int32 → Option Bool} {st : Nat → Int32} {p N : Nat} (hK : ∀ g x, K g x = some g) (hN : p + N ≤ 136400) : ∀ (l : List UInt8) (k n : Nat) (g : Bool), sm st (p + k) l → N = k + l.length → l.length < n → tw_MO_isPlain_h24 fu K st (iN p) (iN N) n g (iN k) = some (g && q_pg l) := by
  intro l
  induction l with
  | nil =>
    intro k n g _ h2 hn
    obtain ⟨n, rfl⟩ : ∃ m, n = m + 1 := ⟨n - 1, by omega⟩
    simp only [List.length_nil, Nat.add_zero] at h2
    unfold tw_MO_isPlain_h24
    rw [if_pos (by simp (disch := omega) only [iN_a, iN_c, iN_le, iN_lt, iN_eq, iN_i]; omega), hK]
    cases g <;> rfl
  | cons y l ih =>
    intro k n g h h2 hn
    obtain ⟨n, rfl⟩ : ∃ m, n = m + 1 := ⟨n - 1, by omega⟩
    rw [List.length_cons] at h2 hn
    have IH := fun g => ih (k + 1) n g (by rw [← Nat.add_assoc]; exact h.2) (by omega) (by omega)
    unfold tw_MO_isPlain_h24
    rw [if_neg (by simp (disch := omega) only [iN_a, iN_c, iN_le, iN_lt, iN_eq, iN_i]; omega), show iN k + 1 = iN (k + 1) from iN_a k 1]
    unfold tw_MO_isPlain_r30
    simp only [IH]
    cases g with
    | false =>
      rw [if_pos (show b2i false = 0 from rfl)]
      rfl
    | true =>
      rw [if_neg (show ¬ b2i true = 0 by decide), show iN p + iN k = iN (p + k) from iN_a p k, if_pos (by simp (disch := omega) only [i_0, i_136400, iN_a, iN_c, iN_le, iN_lt, iN_eq, iN_i]; omega), iN_c (by omega), h.1, i_46, qy_46, i_0, qy_0]
      show _ = some (true && (if y = 46 then false else if y = 0 then false else q_pg l))
      by_cases c1 : y = 46
      · rw [if_pos c1, if_pos c1]
        rfl
      · rw [if_neg c1, if_neg c1]
        by_cases c2 : y = 0
        · rw [if_pos c2, if_pos c2]
          rfl
        · rw [if_neg c2, if_neg c2]
theorem r_pl2 {fu p : Nat} {st : Nat → Int32} {l : List UInt8} (h : sm st p l) (hp : p + l.length ≤ 136400) (hp2 : p < 136400) (hf : l.length + 2 ≤ fu) : tw_MO_isPlain fu st (iN p) (iN l.length) = some (q_pln l) := by
  unfold tw_MO_isPlain
  cases l with
  | nil =>
    rw [if_pos (show iN ([] : List UInt8).length ≤ 0 from q_le0), i_0]
    exact r_pl2_h (fun _ _ => rfl) hp [] 0 fu false h rfl (by show 0 < fu; omega)
  | cons y l =>
    have A := fun g => r_pl2_h (fu := fu) (K := fun (x3_8 : Bool) (x4_8 : Int32) => some x3_8) (st := st) (p := p) (N := (y :: l).length) (fun _ _ => rfl) hp (y :: l) 0 fu g h (by omega) (by omega)
    rw [if_neg (show ¬ iN (y :: l).length ≤ 0 by simp (disch := (simp only [List.length_cons] at *; omega)) only [i_0, iN_a, iN_c, iN_le, iN_lt, iN_eq, iN_i]; simp), if_pos (by simp (disch := omega) only [i_0, i_136400, iN_a, iN_c, iN_le, iN_lt, iN_eq, iN_i]; omega), iN_c (by omega), h.1, i_36, qy_36, i_0, A, A]
    show _ = some (if y = 36 then false else q_pg (y :: l))
    split <;> rfl
