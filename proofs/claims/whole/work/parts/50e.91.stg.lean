/-! the pure part: the stage as a whole -/
abbrev q_ST := Int32 × Int32 × Int32 × Int32 × Bool × (Nat → UInt8) × Int32 × (Nat → Int32) × Int32 × Bool × Int32 × Int32 × Int32 × Int32 × Bool × Int32 × Int32 × Bool × (Nat → Int32) × (Nat → Int32) × (Nat → Int32) × (Nat → Int32) × (Nat → Int32) × (Nat → Int32) × Int32 × Int32 × Int64 × (Nat → Int32) × (Nat → Int32) × (Nat → Int32) × (Nat → Int32) × (Nat → Int32) × (Nat → Int32) × Int32 × (Nat → Int32) × (Nat → Int32) × (Nat → Int32) × (Nat → Int32) × (Nat → Int32) × (Nat → Int32) × Int32 × (Nat → Int32) × (Nat → Int32) × (Nat → Int32) × (Nat → Int32) × (Nat → Int32) × (Nat → Int32) × Bool
noncomputable def q_sto (F : List (List UInt8)) (ks : List q_K) : List Nat := Classical.epsilon (fun σ => q_so F ks σ)
theorem q_stoe {F : List (List UInt8)} {ks : List q_K} {σ : List Nat} (h : q_so F ks σ) : q_sto F ks = σ := by
  have h' : ∃ σ, q_so F ks σ := ⟨σ, h⟩
  exact q_sou (Classical.epsilon_spec h') h
/-- the fault of a stage, found before a document is made -/
def q_flt (x : q_P) (F : List (List UInt8)) : Nat :=
  match q_wn x.2.1 with
  | 1 => q_ft1 x.1 x.2.2
  | 2 => q_ft2 x.1 x.2.2
  | 3 => if q_ft3 x.1 x.2.2 = 0 then (if q_hld (q_gk (q_x0 x.2.2) F) F (q_ps x.2.2).tail = true then 0 else 4) else q_ft3 x.1 x.2.2
  | 4 => q_ft4 x.1 x.2.2
  | 5 => if (q_lo x.1 x.2.2).isSome = true then 0 else 2
  | 6 => if (q_lo x.1 x.2.2).isSome = true then 0 else 2
  | 7 => q_ft7 x.1 x.2.2
  | _ => 1
/-- the new documents of a stage -/
noncomputable def q_ndo (x : q_P) (F B : List (List UInt8)) : List (List UInt8) :=
  match q_wn x.2.1 with
  | 1 => F.map (q_pjD (q_ps x.2.2))
  | 2 => F.flatMap (q_uw (q_xs x.2.2))
  | 3 => q_gds (q_x0 x.2.2) (q_ps x.2.2).tail F
  | 4 => (q_sto F ((q_ps x.2.2).map q_key)).map (fun y => F.getD y [])
  | 5 => q_sk true ((q_lo x.1 x.2.2).getD 0) F
  | 6 => q_sk false ((q_lo x.1 x.2.2).getD 0) F
  | 7 => q_lks x.2.2 F B
  | _ => []
def q_flp (ps : List q_P) (F : List (List UInt8)) : Nat := match ps with | [x] => q_flt x F | _ => 1
noncomputable def q_nwp (ps : List q_P) (F B : List (List UInt8)) : Option (List (List UInt8)) := match ps with | [x] => q_run (some []) (q_ndo x F B) | _ => none
def q_sg3 (fl : Nat) (N : Option (List (List UInt8))) (F : List (List UInt8)) : Int32 × List (List UInt8) × List UInt8 :=
  if fl = 0 then (match N with | some R => (iN R.length, R, []) | none => (-5, F, [])) else (iN fl - 10, F, [])
/-- what stage answers, belt 0 and the tape afterwards -/
noncomputable def q_aG (F K : List (List UInt8)) (T : List UInt8) (n : Int32) : Int32 × List (List UInt8) × List UInt8 :=
  if n < 0 then (-2, F, T)
  else if n.toNatClampNeg ≤ T.length then
    (if q_kb 16 false (T.take n.toNatClampNeg) = true then q_sg3 (q_flp (q_ps (T.take n.toNatClampNeg)) F) (q_nwp (q_ps (T.take n.toNatClampNeg)) F K) F else (-1, F, []))
  else (-2, F, T)
theorem q_fx3 (k : UInt8) (v : List UInt8) : q_xf k v ≤ 3 := by
  by_cases c : q_xf k v = 0
  · omega
  · have := q_xf3 c
    omega
theorem q_fl1 (x : q_P) : q_gpf x ≤ 3 := by
  unfold q_gpf
  repeat' split
  all_goals first | omega | exact q_fx3 _ _
theorem q_fl2 : ∀ (ps : List q_P), q_gff ps ≤ 3 := by
  intro ps
  induction ps with
  | nil => exact Nat.zero_le _
  | cons y r ih =>
    rw [q_gffc]
    split
    · exact ih
    · exact q_fl1 y
theorem q_fl3 : ∀ (ps : List q_P), q_sf ps ≤ 3 := by
  intro ps
  induction ps with
  | nil => exact Nat.zero_le _
  | cons y r ih =>
    rw [q_sfc]
    repeat' split
    all_goals first | omega | exact ih
theorem q_fl4 (ps : List q_P) : q_lkf ps ≤ 3 := by
  unfold q_lkf
  repeat' split
  all_goals omega
theorem q_fltl (x : q_P) (F : List (List UInt8)) : q_flt x F ≤ 4 := by
  have f1 := q_ft1l x.1 x.2.2
  have f2 : q_ft2 x.1 x.2.2 ≤ 3 := by
    unfold q_ft2
    repeat' split
    all_goals omega
  have f3 : q_ft3 x.1 x.2.2 ≤ 3 := by
    unfold q_ft3 q_gfo
    repeat' split
    all_goals first | omega | exact q_fl2 _
  have f4 : q_ft4 x.1 x.2.2 ≤ 3 := by
    unfold q_ft4
    repeat' split
    all_goals first | omega | exact q_fl3 _
  have f7 : q_ft7 x.1 x.2.2 ≤ 3 := by
    unfold q_ft7
    split
    · exact q_fl4 _
    · omega
  unfold q_flt
  split
  all_goals first | omega | (repeat' split) <;> omega
theorem q_flpl (ps : List q_P) (F : List (List UInt8)) : q_flp ps F ≤ 4 := by
  unfold q_flp
  split
  · exact q_fltl _ _
  · omega
/-- the class's state with the third belt's start and the counter of searches -/
def q_cz (b : Nat → UInt8) (fb kb nb : Nat) (fcnt : Int32) (fsts : Nat → Int32) (kcnt : Int32) (ksts nsts : Nat → Int32) (onT : Int32) (psn : Nat → Int32) (r : Nat) (F K : List (List UInt8)) (T : List UInt8) : Prop :=
  q_cs b fb kb nb fcnt fsts kcnt ksts onT F K T ∧ (nsts 0 = iN nb ∧ q_stb nsts) ∧ q_psn psn r
def q_SP (fb kb nb : Nat) (fcnt : Int32) (fsts : Nat → Int32) (kcnt : Int32) (ksts : Nat → Int32) (r : Nat) (K : List (List UInt8)) (A : Int32 × List (List UInt8) × List UInt8) (X : q_ST) : Prop :=
  ∃ (onT : Int32) (place : Int32) (limit : Int32) (full : Bool) (b : Nat → UInt8) (ncnt : Int32) (nsts : Nat → Int32) (pcnt : Int32) (pfix : Bool) (pown : Int32) (plc : Int32) (pbs : Int32) (pms : Bool) (vplace : Int32) (vlimit : Int32) (vfull : Bool) (pst : Nat → Int32) (pen : Nat → Int32) (pix : Nat → Int32) (pho : Nat → Int32) (plv : Nat → Int32) (psn : Nat → Int32) (ngr : Int32) (held : Int32) (gsum : Int64) (gky : Nat → Int32) (ghs : Nat → Int32) (gfi : Nat → Int32) (gla : Nat → Int32) (gnx : Nat → Int32) (gvl : Nat → Int32) (sorts : Int32) (k0 : Nat → Int32) (k1 : Nat → Int32) (k2 : Nat → Int32) (k3 : Nat → Int32) (sg : Nat → Int32) (ord : Nat → Int32) (fict : Int32) (fch : Nat → Int32) (fnx : Nat → Int32) (flv : Nat → Int32) (fhs : Nat → Int32) (fdo : Nat → Int32) (fow : Nat → Int32) (tk : Bool) (r2 : Nat), X = (A.1, onT, place, limit, full, b, ncnt, nsts, pcnt, pfix, pown, plc, iN r2, pbs, pms, vplace, vlimit, vfull, pst, pen, pix, pho, plv, psn, ngr, held, gsum, gky, ghs, gfi, gla, gnx, gvl, sorts, k0, k1, k2, k3, sg, ord, fict, fch, fnx, flv, fhs, fdo, fow, tk) ∧ r2 ≤ r + 800 ∧ (tk = false → q_cz b fb kb nb fcnt fsts kcnt ksts nsts onT psn r2 A.2.1 K A.2.2) ∧ (tk = true → q_cz b nb kb fb ncnt nsts kcnt ksts fsts onT psn r2 A.2.1 K A.2.2)
theorem c_jP {fb kb nb r r2 fl : Nat} {fcnt kcnt C : Int32} {fsts ksts : Nat → Int32} {onT : Int32} {place : Int32} {limit : Int32} {full : Bool} {b : Nat → UInt8} {ncnt : Int32} {nsts : Nat → Int32} {pcnt : Int32} {pfix : Bool} {pown : Int32} {plc : Int32} {pbs : Int32} {pms : Bool} {vplace : Int32} {vlimit : Int32} {vfull : Bool} {pst : Nat → Int32} {pen : Nat → Int32} {pix : Nat → Int32} {pho : Nat → Int32} {plv : Nat → Int32} {psn : Nat → Int32} {ngr : Int32} {held : Int32} {gsum : Int64} {gky : Nat → Int32} {ghs : Nat → Int32} {gfi : Nat → Int32} {gla : Nat → Int32} {gnx : Nat → Int32} {gvl : Nat → Int32} {sorts : Int32} {k0 : Nat → Int32} {k1 : Nat → Int32} {k2 : Nat → Int32} {k3 : Nat → Int32} {sg : Nat → Int32} {ord : Nat → Int32} {fict : Int32} {fch : Nat → Int32} {fnx : Nat → Int32} {flv : Nat → Int32} {fhs : Nat → Int32} {fdo : Nat → Int32} {fow : Nat → Int32} {b2 : Nat → UInt8} {F K M : List (List UInt8)} {N : Option (List (List UInt8))} {T : List UInt8} (hfl : fl ≤ 4) (h : q_cs b fb kb nb fcnt fsts kcnt ksts onT F K T) (hC : C = q_ans fl N) (hb : q_be b2 nb ncnt nsts M) (hM : ∀ R, N = some R → fl = 0 → M = R) (hfr : ∀ j, j < 122000 → j < nb ∨ nb + 40000 ≤ j → b2 j = b j) (hr : r2 ≤ r + 800) (hn : q_psn psn r2) :
    q_SP fb kb nb fcnt fsts kcnt ksts r K (q_sg3 fl N F) (tw_PB_stage_j178 (iN fb) (iN kb) (iN nb) fcnt fsts kcnt ksts C 0 place limit full b2 ncnt nsts pcnt pfix pown plc (iN r2) pbs pms vplace vlimit vfull pst pen pix pho plv psn ngr held gsum gky ghs gfi gla gnx gvl sorts k0 k1 k2 k3 sg ord fict fch fnx flv fhs fdo fow) := by
  obtain ⟨h1, h2, h3, h4, h5, h6, h7, h8, h9, h10⟩ := h
  have w1 := h1.2.2.2.1.2.1
  have w2 := h2.2.2.2.1.2.1
  have g1 := h1.2.2.2.2.1
  have g2 := h2.2.2.2.2.1
  have gb := hb.2.2.2.2.1
  have gb2 := hb.2.2.2.2.2.1
  have i1 : q_be b2 fb fcnt fsts F := q_bef h1 (fun j v w => hfr j (by omega) (by omega))
  have i2 : q_be b2 kb kcnt ksts K := q_bef h2 (fun j v w => hfr j (by omega) (by omega))
  have s0 : nsts 0 = iN nb := by
    have := hb.2.1 0 (Nat.zero_le _)
    rwa [q_pf0, Nat.add_zero] at this
  have t0 : fsts 0 = iN fb := by
    have := h1.2.1 0 (Nat.zero_le _)
    rwa [q_pf0, Nat.add_zero] at this
  have gF := h1.2.2.2.2.1
  have gF2 := h1.2.2.2.2.2.1
  have keep : q_cz b2 fb kb nb fcnt fsts kcnt ksts nsts 0 psn r2 F K [] := ⟨⟨i1, i2, trivial, rfl, Nat.zero_le _, h6, h7, h8, h9, h10⟩, ⟨s0, hb.2.2.2.2.2.2⟩, hn⟩
  unfold tw_PB_stage_j178 q_sg3
  subst hC
  unfold q_ans
  by_cases f0 : fl = 0
  · rw [if_pos f0, if_pos f0]
    unfold q_05
    cases N with
    | some R =>
      have e := hM R rfl f0
      subst e
      rw [if_pos (show (some M).isSome = true from rfl), if_pos (show (0 : Int32) = 0 from rfl)]
      have ec := hb.1
      subst ec
      exact ⟨_, _, _, _, _, _, _, _, _, _, _, _, _, _, _, _, _, _, _, _, _, _, _, _, _, _, _, _, _, _, _, _, _, _, _, _, _, _, _, _, _, _, _, _, _, true, r2, rfl, hr, (fun q => by cases q), fun _ => ⟨⟨hb, i2, trivial, rfl, Nat.zero_le _, by omega, by omega, by omega, by omega, by omega⟩, ⟨t0, h1.2.2.2.2.2.2⟩, hn⟩⟩
    | none =>
      rw [if_neg (show ¬ (none : Option (List (List UInt8))).isSome = true from (by decide)), if_neg (show ¬ (5 : Int32) = 0 by decide)]
      exact ⟨_, _, _, _, _, _, _, _, _, _, _, _, _, _, _, _, _, _, _, _, _, _, _, _, _, _, _, _, _, _, _, _, _, _, _, _, _, _, _, _, _, _, _, _, _, false, r2, rfl, hr, (fun _ => keep), fun q => by cases q⟩
  · rw [if_neg f0, if_neg f0, if_neg (show ¬ iN fl = 0 by rw [i_0, iN_eq (by omega) (by omega)]; exact f0)]
    exact ⟨_, _, _, _, _, _, _, _, _, _, _, _, _, _, _, _, _, _, _, _, _, _, _, _, _, _, _, _, _, _, _, _, _, _, _, _, _, _, _, _, _, _, _, _, _, false, r2, rfl, hr, (fun _ => keep), fun q => by cases q⟩
