/-! every method has one list of words: its own code, then the tables' good ones; links of nest mates and the classes are kept beside them -/
def lw_g : List Cond := lw_tbl.filter goodWord
theorem lw_gm {w : Cond} (h : w ∈ lw_tbl) (hg : goodWord w = true) : w ∈ lw_g := List.mem_filter.mpr ⟨h, hg⟩
theorem lw_good : GoodIn lw_g lw_g := fun w hw => ⟨hw, good_of_word (List.mem_filter.mp hw).2⟩
theorem gC_of {w1 : Cond} (h1 : w1 ∈ lw_g) : GoodIn lw_g (w1 :: lw_g) := fun w hw => (List.mem_cons.mp hw).elim (fun e => e ▸ lw_good w1 h1) (fun h => lw_good w h)
theorem gV_of {own C : String} {idx : Nat} {y : MethodName} {w1 : Cond} (h1 : Cond.methodLink own idx y ∈ lw_g) (h2 : Cond.instanceMethod y ∈ lw_g) (h3 : Cond.selects C y y ∈ lw_g) (h4 : Cond.initialized C ∈ lw_g) (h5 : w1 ∈ lw_g) : GoodIn lw_g (wsV own idx C y (w1 :: lw_g)) := by
  intro w hw
  unfold wsV at hw
  rcases List.mem_append.mp hw with h | h
  · simp only [List.mem_cons, List.not_mem_nil, or_false] at h
    rcases h with rfl | rfl | rfl | rfl
    · exact lw_good _ h1
    · exact lw_good _ h2
    · exact lw_good _ h3
    · exact lw_good _ h4
  · exact gC_of h5 w h
theorem gS_of {own : String} {idx : Nat} {y : MethodName} {w1 : Cond} (h1 : Cond.methodLink own idx y ∈ lw_g) (h2 : Cond.static y ∈ lw_g) (h4 : Cond.initialized y.cls ∈ lw_g) (h5 : w1 ∈ lw_g) : GoodIn lw_g (va_wsS own idx y (w1 :: lw_g)) := by
  intro w hw
  unfold va_wsS at hw
  rcases List.mem_append.mp hw with h | h
  · simp only [List.mem_cons, List.not_mem_nil, or_false] at h
    rcases h with rfl | rfl | rfl
    · exact lw_good _ h1
    · exact lw_good _ h2
    · exact lw_good _ h4
  · exact gC_of h5 w h
/-! names: classes, their fields, links of nest mates (by my program wip/gen/names.py) -/
def R_ST : String := "PipelineBelt$Store"
def T_ST : u_T := fun k => match k with
  | _ => ("PipelineBelt$Store", "bytes", "[B", true)
def ty_ST : Nat → FieldType := fun k => match k with
  | _ => .array .byte
theorem nm_ST : ∀ a, a < 1 → ∀ b, b < 1 → a ≠ b → (T_ST a).2.1 ≠ (T_ST b).2.1 := by decide +kernel
theorem tyok_ST : ∀ k, k < 1 → parseFieldDescriptor (T_ST k).2.2.1 = some (ty_ST k) := by decide +kernel
theorem u0_ST : ∀ w ∈ u_ws R_ST T_ST 1, w ∈ lw_tbl := by decide +kernel
theorem ug_ST : (u_ws R_ST T_ST 1).all goodWord = true := by decide +kernel
theorem u_ST : ∀ w ∈ u_ws R_ST T_ST 1, w ∈ lw_g := fun w h => lw_gm (u0_ST w h) (List.all_eq_true.mp ug_ST w h)
def R_WR : String := "PipelineBelt$Writer"
def T_WR : u_T := fun k => match k with
  | 0 => ("PipelineBelt$Writer", "store", "LPipelineBelt$Store;", true)
  | 1 => ("PipelineBelt$Writer", "place", "I", false)
  | 2 => ("PipelineBelt$Writer", "limit", "I", false)
  | _ => ("PipelineBelt$Writer", "full", "Z", false)
def ty_WR : Nat → FieldType := fun k => match k with
  | 0 => .object "PipelineBelt$Store"
  | 1 => .int
  | 2 => .int
  | _ => .boolean
theorem nm_WR : ∀ a, a < 4 → ∀ b, b < 4 → a ≠ b → (T_WR a).2.1 ≠ (T_WR b).2.1 := by decide +kernel
theorem tyok_WR : ∀ k, k < 4 → parseFieldDescriptor (T_WR k).2.2.1 = some (ty_WR k) := by decide +kernel
theorem u0_WR : ∀ w ∈ u_ws R_WR T_WR 4, w ∈ lw_tbl := by decide +kernel
theorem ug_WR : (u_ws R_WR T_WR 4).all goodWord = true := by decide +kernel
theorem u_WR : ∀ w ∈ u_ws R_WR T_WR 4, w ∈ lw_g := fun w h => lw_gm (u0_WR w h) (List.all_eq_true.mp ug_WR w h)
def R_BE : String := "PipelineBelt$Belt"
def T_BE : u_T := fun k => match k with
  | 0 => ("PipelineBelt$Belt", "base", "I", true)
  | 1 => ("PipelineBelt$Belt", "starts", "[I", true)
  | _ => ("PipelineBelt$Belt", "count", "I", false)
def ty_BE : Nat → FieldType := fun k => match k with
  | 0 => .int
  | 1 => .array .int
  | _ => .int
theorem nm_BE : ∀ a, a < 3 → ∀ b, b < 3 → a ≠ b → (T_BE a).2.1 ≠ (T_BE b).2.1 := by decide +kernel
theorem tyok_BE : ∀ k, k < 3 → parseFieldDescriptor (T_BE k).2.2.1 = some (ty_BE k) := by decide +kernel
theorem u0_BE : ∀ w ∈ u_ws R_BE T_BE 3, w ∈ lw_tbl := by decide +kernel
theorem ug_BE : (u_ws R_BE T_BE 3).all goodWord = true := by decide +kernel
theorem u_BE : ∀ w ∈ u_ws R_BE T_BE 3, w ∈ lw_g := fun w h => lw_gm (u0_BE w h) (List.all_eq_true.mp ug_BE w h)
def R_BS : String := "PipelineBelt$Belts"
def T_BS : u_T := fun k => match k with
  | 0 => ("PipelineBelt$Belts", "store", "LPipelineBelt$Store;", true)
  | 1 => ("PipelineBelt$Belts", "writer", "LPipelineBelt$Writer;", true)
  | 2 => ("PipelineBelt$Belts", "front", "LPipelineBelt$Belt;", false)
  | 3 => ("PipelineBelt$Belts", "back", "LPipelineBelt$Belt;", false)
  | _ => ("PipelineBelt$Belts", "anew", "LPipelineBelt$Belt;", false)
def ty_BS : Nat → FieldType := fun k => match k with
  | 0 => .object "PipelineBelt$Store"
  | 1 => .object "PipelineBelt$Writer"
  | 2 => .object "PipelineBelt$Belt"
  | 3 => .object "PipelineBelt$Belt"
  | _ => .object "PipelineBelt$Belt"
theorem nm_BS : ∀ a, a < 5 → ∀ b, b < 5 → a ≠ b → (T_BS a).2.1 ≠ (T_BS b).2.1 := by decide +kernel
theorem tyok_BS : ∀ k, k < 5 → parseFieldDescriptor (T_BS k).2.2.1 = some (ty_BS k) := by decide +kernel
theorem u0_BS : ∀ w ∈ u_ws R_BS T_BS 5, w ∈ lw_tbl := by decide +kernel
theorem ug_BS : (u_ws R_BS T_BS 5).all goodWord = true := by decide +kernel
theorem u_BS : ∀ w ∈ u_ws R_BS T_BS 5, w ∈ lw_g := fun w h => lw_gm (u0_BS w h) (List.all_eq_true.mp ug_BS w h)
def R_CH : String := "PipelineBelt$Checker"
def T_CH : u_T := fun k => match k with
  | _ => ("PipelineBelt$Checker", "store", "LPipelineBelt$Store;", true)
def ty_CH : Nat → FieldType := fun k => match k with
  | _ => .object "PipelineBelt$Store"
theorem nm_CH : ∀ a, a < 1 → ∀ b, b < 1 → a ≠ b → (T_CH a).2.1 ≠ (T_CH b).2.1 := by decide +kernel
theorem tyok_CH : ∀ k, k < 1 → parseFieldDescriptor (T_CH k).2.2.1 = some (ty_CH k) := by decide +kernel
theorem u0_CH : ∀ w ∈ u_ws R_CH T_CH 1, w ∈ lw_tbl := by decide +kernel
theorem ug_CH : (u_ws R_CH T_CH 1).all goodWord = true := by decide +kernel
theorem u_CH : ∀ w ∈ u_ws R_CH T_CH 1, w ∈ lw_g := fun w h => lw_gm (u0_CH w h) (List.all_eq_true.mp ug_CH w h)
def R_PA : String := "PipelineBelt$Path"
def T_PA : u_T := fun k => match k with
  | 0 => ("PipelineBelt$Path", "store", "LPipelineBelt$Store;", true)
  | 1 => ("PipelineBelt$Path", "writer", "LPipelineBelt$Writer;", true)
  | 2 => ("PipelineBelt$Path", "starts", "[I", true)
  | 3 => ("PipelineBelt$Path", "ends", "[I", true)
  | 4 => ("PipelineBelt$Path", "indexes", "[I", true)
  | 5 => ("PipelineBelt$Path", "holders", "[I", true)
  | 6 => ("PipelineBelt$Path", "count", "I", false)
  | 7 => ("PipelineBelt$Path", "fixed", "Z", false)
  | 8 => ("PipelineBelt$Path", "own", "I", false)
  | 9 => ("PipelineBelt$Path", "leaves", "[I", true)
  | 10 => ("PipelineBelt$Path", "seen", "[I", true)
  | 11 => ("PipelineBelt$Path", "leafCount", "I", false)
  | 12 => ("PipelineBelt$Path", "search", "I", false)
  | 13 => ("PipelineBelt$Path", "base", "I", false)
  | _ => ("PipelineBelt$Path", "missed", "Z", false)
def ty_PA : Nat → FieldType := fun k => match k with
  | 0 => .object "PipelineBelt$Store"
  | 1 => .object "PipelineBelt$Writer"
  | 2 => .array .int
  | 3 => .array .int
  | 4 => .array .int
  | 5 => .array .int
  | 6 => .int
  | 7 => .boolean
  | 8 => .int
  | 9 => .array .int
  | 10 => .array .int
  | 11 => .int
  | 12 => .int
  | 13 => .int
  | _ => .boolean
theorem nm_PA : ∀ a, a < 15 → ∀ b, b < 15 → a ≠ b → (T_PA a).2.1 ≠ (T_PA b).2.1 := by decide +kernel
theorem tyok_PA : ∀ k, k < 15 → parseFieldDescriptor (T_PA k).2.2.1 = some (ty_PA k) := by decide +kernel
theorem u0_PA : ∀ w ∈ u_ws R_PA T_PA 15, w ∈ lw_tbl := by decide +kernel
theorem ug_PA : (u_ws R_PA T_PA 15).all goodWord = true := by decide +kernel
theorem u_PA : ∀ w ∈ u_ws R_PA T_PA 15, w ∈ lw_g := fun w h => lw_gm (u0_PA w h) (List.all_eq_true.mp ug_PA w h)
def R_SH : String := "PipelineBelt$Shaper"
def T_SH : u_T := fun k => match k with
  | 0 => ("PipelineBelt$Shaper", "store", "LPipelineBelt$Store;", true)
  | 1 => ("PipelineBelt$Shaper", "belts", "LPipelineBelt$Belts;", true)
  | _ => ("PipelineBelt$Shaper", "path", "LPipelineBelt$Path;", true)
def ty_SH : Nat → FieldType := fun k => match k with
  | 0 => .object "PipelineBelt$Store"
  | 1 => .object "PipelineBelt$Belts"
  | _ => .object "PipelineBelt$Path"
theorem nm_SH : ∀ a, a < 3 → ∀ b, b < 3 → a ≠ b → (T_SH a).2.1 ≠ (T_SH b).2.1 := by decide +kernel
theorem tyok_SH : ∀ k, k < 3 → parseFieldDescriptor (T_SH k).2.2.1 = some (ty_SH k) := by decide +kernel
theorem u0_SH : ∀ w ∈ u_ws R_SH T_SH 3, w ∈ lw_tbl := by decide +kernel
theorem ug_SH : (u_ws R_SH T_SH 3).all goodWord = true := by decide +kernel
theorem u_SH : ∀ w ∈ u_ws R_SH T_SH 3, w ∈ lw_g := fun w h => lw_gm (u0_SH w h) (List.all_eq_true.mp ug_SH w h)
def R_GR : String := "PipelineBelt$Grouper"
def T_GR : u_T := fun k => match k with
  | 0 => ("PipelineBelt$Grouper", "store", "LPipelineBelt$Store;", true)
  | 1 => ("PipelineBelt$Grouper", "belts", "LPipelineBelt$Belts;", true)
  | 2 => ("PipelineBelt$Grouper", "path", "LPipelineBelt$Path;", true)
  | 3 => ("PipelineBelt$Grouper", "keys", "[I", true)
  | 4 => ("PipelineBelt$Grouper", "hashes", "[I", true)
  | 5 => ("PipelineBelt$Grouper", "firsts", "[I", true)
  | 6 => ("PipelineBelt$Grouper", "lasts", "[I", true)
  | 7 => ("PipelineBelt$Grouper", "nexts", "[I", true)
  | 8 => ("PipelineBelt$Grouper", "groups", "I", false)
  | 9 => ("PipelineBelt$Grouper", "values", "[I", true)
  | 10 => ("PipelineBelt$Grouper", "held", "I", false)
  | _ => ("PipelineBelt$Grouper", "sum", "J", false)
def ty_GR : Nat → FieldType := fun k => match k with
  | 0 => .object "PipelineBelt$Store"
  | 1 => .object "PipelineBelt$Belts"
  | 2 => .object "PipelineBelt$Path"
  | 3 => .array .int
  | 4 => .array .int
  | 5 => .array .int
  | 6 => .array .int
  | 7 => .array .int
  | 8 => .int
  | 9 => .array .int
  | 10 => .int
  | _ => .long
theorem nm_GR : ∀ a, a < 12 → ∀ b, b < 12 → a ≠ b → (T_GR a).2.1 ≠ (T_GR b).2.1 := by decide +kernel
theorem tyok_GR : ∀ k, k < 12 → parseFieldDescriptor (T_GR k).2.2.1 = some (ty_GR k) := by decide +kernel
theorem u0_GR : ∀ w ∈ u_ws R_GR T_GR 12, w ∈ lw_tbl := by decide +kernel
theorem ug_GR : (u_ws R_GR T_GR 12).all goodWord = true := by decide +kernel
theorem u_GR : ∀ w ∈ u_ws R_GR T_GR 12, w ∈ lw_g := fun w h => lw_gm (u0_GR w h) (List.all_eq_true.mp ug_GR w h)
def R_SO : String := "PipelineBelt$Sorter"
def T_SO : u_T := fun k => match k with
  | 0 => ("PipelineBelt$Sorter", "store", "LPipelineBelt$Store;", true)
  | 1 => ("PipelineBelt$Sorter", "belts", "LPipelineBelt$Belts;", true)
  | 2 => ("PipelineBelt$Sorter", "path", "LPipelineBelt$Path;", true)
  | 3 => ("PipelineBelt$Sorter", "keys", "[[I", true)
  | 4 => ("PipelineBelt$Sorter", "signs", "[I", true)
  | 5 => ("PipelineBelt$Sorter", "order", "[I", true)
  | _ => ("PipelineBelt$Sorter", "sorts", "I", false)
def ty_SO : Nat → FieldType := fun k => match k with
  | 0 => .object "PipelineBelt$Store"
  | 1 => .object "PipelineBelt$Belts"
  | 2 => .object "PipelineBelt$Path"
  | 3 => .array (.array .int)
  | 4 => .array .int
  | 5 => .array .int
  | _ => .int
theorem nm_SO : ∀ a, a < 7 → ∀ b, b < 7 → a ≠ b → (T_SO a).2.1 ≠ (T_SO b).2.1 := by decide +kernel
theorem tyok_SO : ∀ k, k < 7 → parseFieldDescriptor (T_SO k).2.2.1 = some (ty_SO k) := by decide +kernel
theorem u0_SO : ∀ w ∈ u_ws R_SO T_SO 7, w ∈ lw_tbl := by decide +kernel
theorem ug_SO : (u_ws R_SO T_SO 7).all goodWord = true := by decide +kernel
theorem u_SO : ∀ w ∈ u_ws R_SO T_SO 7, w ∈ lw_g := fun w h => lw_gm (u0_SO w h) (List.all_eq_true.mp ug_SO w h)
def R_FI : String := "PipelineBelt$Finder"
def T_FI : u_T := fun k => match k with
  | 0 => ("PipelineBelt$Finder", "store", "LPipelineBelt$Store;", true)
  | 1 => ("PipelineBelt$Finder", "belts", "LPipelineBelt$Belts;", true)
  | 2 => ("PipelineBelt$Finder", "path", "LPipelineBelt$Path;", true)
  | 3 => ("PipelineBelt$Finder", "chains", "[I", true)
  | 4 => ("PipelineBelt$Finder", "nexts", "[I", true)
  | 5 => ("PipelineBelt$Finder", "leaves", "[I", true)
  | 6 => ("PipelineBelt$Finder", "hashes", "[I", true)
  | 7 => ("PipelineBelt$Finder", "documents", "[I", true)
  | 8 => ("PipelineBelt$Finder", "count", "I", false)
  | _ => ("PipelineBelt$Finder", "owners", "[I", true)
def ty_FI : Nat → FieldType := fun k => match k with
  | 0 => .object "PipelineBelt$Store"
  | 1 => .object "PipelineBelt$Belts"
  | 2 => .object "PipelineBelt$Path"
  | 3 => .array .int
  | 4 => .array .int
  | 5 => .array .int
  | 6 => .array .int
  | 7 => .array .int
  | 8 => .int
  | _ => .array .int
theorem nm_FI : ∀ a, a < 10 → ∀ b, b < 10 → a ≠ b → (T_FI a).2.1 ≠ (T_FI b).2.1 := by decide +kernel
theorem tyok_FI : ∀ k, k < 10 → parseFieldDescriptor (T_FI k).2.2.1 = some (ty_FI k) := by decide +kernel
theorem u0_FI : ∀ w ∈ u_ws R_FI T_FI 10, w ∈ lw_tbl := by decide +kernel
theorem ug_FI : (u_ws R_FI T_FI 10).all goodWord = true := by decide +kernel
theorem u_FI : ∀ w ∈ u_ws R_FI T_FI 10, w ∈ lw_g := fun w h => lw_gm (u0_FI w h) (List.all_eq_true.mp ug_FI w h)
def R_PB : String := "PipelineBelt"
def T_PB : u_T := fun k => match k with
  | 0 => ("PipelineBelt", "store", "LPipelineBelt$Store;", true)
  | 1 => ("PipelineBelt", "checker", "LPipelineBelt$Checker;", true)
  | 2 => ("PipelineBelt", "belts", "LPipelineBelt$Belts;", true)
  | 3 => ("PipelineBelt", "shaper", "LPipelineBelt$Shaper;", true)
  | 4 => ("PipelineBelt", "grouper", "LPipelineBelt$Grouper;", true)
  | 5 => ("PipelineBelt", "sorter", "LPipelineBelt$Sorter;", true)
  | 6 => ("PipelineBelt", "finder", "LPipelineBelt$Finder;", true)
  | _ => ("PipelineBelt", "onTape", "I", false)
def ty_PB : Nat → FieldType := fun k => match k with
  | 0 => .object "PipelineBelt$Store"
  | 1 => .object "PipelineBelt$Checker"
  | 2 => .object "PipelineBelt$Belts"
  | 3 => .object "PipelineBelt$Shaper"
  | 4 => .object "PipelineBelt$Grouper"
  | 5 => .object "PipelineBelt$Sorter"
  | 6 => .object "PipelineBelt$Finder"
  | _ => .int
theorem nm_PB : ∀ a, a < 8 → ∀ b, b < 8 → a ≠ b → (T_PB a).2.1 ≠ (T_PB b).2.1 := by decide +kernel
theorem tyok_PB : ∀ k, k < 8 → parseFieldDescriptor (T_PB k).2.2.1 = some (ty_PB k) := by decide +kernel
theorem u0_PB : ∀ w ∈ u_ws R_PB T_PB 8, w ∈ lw_tbl := by decide +kernel
theorem ug_PB : (u_ws R_PB T_PB 8).all goodWord = true := by decide +kernel
theorem u_PB : ∀ w ∈ u_ws R_PB T_PB 8, w ∈ lw_g := fun w h => lw_gm (u0_PB w h) (List.all_eq_true.mp ug_PB w h)
def R_MO : String := "PipelineBeltModel"
def T_MO : u_T := fun k => match k with
  | 0 => ("PipelineBeltModel", "thrown", "I", false)
  | 1 => ("PipelineBeltModel", "store", "[I", true)
  | 2 => ("PipelineBeltModel", "taped", "I", false)
  | 3 => ("PipelineBeltModel", "docs", "[I", true)
  | 4 => ("PipelineBeltModel", "total", "[I", true)
  | 5 => ("PipelineBeltModel", "from", "[I", true)
  | 6 => ("PipelineBeltModel", "size", "[I", true)
  | 7 => ("PipelineBeltModel", "fresh", "I", false)
  | 8 => ("PipelineBeltModel", "freshTotal", "I", false)
  | 9 => ("PipelineBeltModel", "freshFrom", "[I", true)
  | 10 => ("PipelineBeltModel", "freshSize", "[I", true)
  | 11 => ("PipelineBeltModel", "top", "I", false)
  | 12 => ("PipelineBeltModel", "began", "I", false)
  | 13 => ("PipelineBeltModel", "most", "I", false)
  | 14 => ("PipelineBeltModel", "over", "Z", false)
  | 15 => ("PipelineBeltModel", "tooGreat", "Z", false)
  | 16 => ("PipelineBeltModel", "leaves", "I", false)
  | 17 => ("PipelineBeltModel", "leafKind", "[I", true)
  | 18 => ("PipelineBeltModel", "leafAt", "[I", true)
  | 19 => ("PipelineBeltModel", "keyKind", "[I", true)
  | 20 => ("PipelineBeltModel", "keyAt", "[I", true)
  | 21 => ("PipelineBeltModel", "order", "[I", true)
  | 22 => ("PipelineBeltModel", "group", "[I", true)
  | 23 => ("PipelineBeltModel", "items", "I", false)
  | 24 => ("PipelineBeltModel", "itemKind", "[I", true)
  | 25 => ("PipelineBeltModel", "itemAt", "[I", true)
  | 26 => ("PipelineBeltModel", "high", "J", false)
  | 27 => ("PipelineBeltModel", "low", "J", false)
  | _ => ("PipelineBeltModel", "docFull", "Z", false)
def ty_MO : Nat → FieldType := fun k => match k with
  | 0 => .int
  | 1 => .array .int
  | 2 => .int
  | 3 => .array .int
  | 4 => .array .int
  | 5 => .array .int
  | 6 => .array .int
  | 7 => .int
  | 8 => .int
  | 9 => .array .int
  | 10 => .array .int
  | 11 => .int
  | 12 => .int
  | 13 => .int
  | 14 => .boolean
  | 15 => .boolean
  | 16 => .int
  | 17 => .array .int
  | 18 => .array .int
  | 19 => .array .int
  | 20 => .array .int
  | 21 => .array .int
  | 22 => .array .int
  | 23 => .int
  | 24 => .array .int
  | 25 => .array .int
  | 26 => .long
  | 27 => .long
  | _ => .boolean
theorem nm_MO : ∀ a, a < 29 → ∀ b, b < 29 → a ≠ b → (T_MO a).2.1 ≠ (T_MO b).2.1 := by decide +kernel
theorem tyok_MO : ∀ k, k < 29 → parseFieldDescriptor (T_MO k).2.2.1 = some (ty_MO k) := by decide +kernel
theorem u0_MO : ∀ w ∈ u_ws R_MO T_MO 29, w ∈ lw_tbl := by decide +kernel
theorem ug_MO : (u_ws R_MO T_MO 29).all goodWord = true := by decide +kernel
theorem u_MO : ∀ w ∈ u_ws R_MO T_MO 29, w ∈ lw_g := fun w h => lw_gm (u0_MO w h) (List.all_eq_true.mp ug_MO w h)
def R_LW : String := "PipelineBeltLaw"
def R_JI : String := "java/lang/Integer"
def R_JL : String := "java/lang/Long"
def R_JA : String := "java/util/Arrays"
abbrev vwCl : List vw_C := [(R_ST, T_ST, 1), (R_WR, T_WR, 4), (R_BE, T_BE, 3), (R_BS, T_BS, 5), (R_CH, T_CH, 1), (R_PA, T_PA, 15), (R_SH, T_SH, 3), (R_GR, T_GR, 12), (R_SO, T_SO, 7), (R_FI, T_FI, 10), (R_PB, T_PB, 8), (R_MO, T_MO, 29)]
def nw_F : List (String × Nat × String × String × String × String) := [("PipelineBelt$Writer", 33, "PipelineBelt$Store", "bytes", "[B", "PipelineBelt"), ("PipelineBelt$Shaper", 138, "PipelineBelt$Writer", "place", "I", "PipelineBelt"), ("PipelineBelt$Belts", 91, "PipelineBelt$Writer", "place", "I", "PipelineBelt"), ("PipelineBelt$Path", 105, "PipelineBelt$Writer", "place", "I", "PipelineBelt"), ("PipelineBelt$Belts", 60, "PipelineBelt$Writer", "full", "Z", "PipelineBelt"), ("PipelineBelt$Finder", 193, "PipelineBelt$Writer", "full", "Z", "PipelineBelt"), ("PipelineBelt", 130, "PipelineBelt$Belt", "base", "I", "PipelineBelt"), ("PipelineBelt$Belts", 49, "PipelineBelt$Belt", "base", "I", "PipelineBelt"), ("PipelineBelt$Shaper", 33, "PipelineBelt$Belt", "count", "I", "PipelineBelt"), ("PipelineBelt", 85, "PipelineBelt$Belt", "count", "I", "PipelineBelt"), ("PipelineBelt$Belts", 41, "PipelineBelt$Belt", "count", "I", "PipelineBelt"), ("PipelineBelt$Sorter", 90, "PipelineBelt$Belt", "count", "I", "PipelineBelt"), ("PipelineBelt$Finder", 105, "PipelineBelt$Belt", "count", "I", "PipelineBelt"), ("PipelineBelt$Grouper", 137, "PipelineBelt$Belt", "count", "I", "PipelineBelt"), ("PipelineBelt$Shaper", 27, "PipelineBelt$Belts", "front", "LPipelineBelt$Belt;", "PipelineBelt"), ("PipelineBelt$Sorter", 84, "PipelineBelt$Belts", "front", "LPipelineBelt$Belt;", "PipelineBelt"), ("PipelineBelt", 123, "PipelineBelt$Belts", "front", "LPipelineBelt$Belt;", "PipelineBelt"), ("PipelineBelt$Grouper", 133, "PipelineBelt$Belts", "front", "LPipelineBelt$Belt;", "PipelineBelt"), ("PipelineBelt$Finder", 151, "PipelineBelt$Belts", "front", "LPipelineBelt$Belt;", "PipelineBelt"), ("PipelineBelt$Finder", 99, "PipelineBelt$Belts", "back", "LPipelineBelt$Belt;", "PipelineBelt"), ("PipelineBelt$Shaper", 148, "PipelineBelt$Path", "holders", "[I", "PipelineBelt"), ("PipelineBelt$Shaper", 147, "PipelineBelt$Path", "count", "I", "PipelineBelt"), ("PipelineBelt$Finder", 130, "PipelineBelt$Path", "leafCount", "I", "PipelineBelt"), ("PipelineBelt$Sorter", 107, "PipelineBelt$Path", "leafCount", "I", "PipelineBelt")]
theorem nw_in : ∀ q ∈ nw_F, Cond.fieldLinkNest q.1 q.2.1 q.2.2.1 q.2.2.2.1 q.2.2.2.2.1 q.2.2.2.2.2 ∈ lw_tbl := by decide +kernel
def nw_ (U : State) : Prop := ∀ q ∈ nw_F, va_Nw (.fieldLinkNest q.1 q.2.1 q.2.2.1 q.2.2.2.1 q.2.2.2.2.1 q.2.2.2.2.2) U
theorem nw_.warm {s U : State} (hW : s.WarmedH U.vm) (h : nw_ s) : nw_ U := fun q hq => va_Nw.warmF hW (h q hq)
theorem nw_.same {u U : State} (e : u.vm = U.vm) (h : nw_ u) : nw_ U := fun q hq => va_Nw.same rfl e (h q hq)
theorem nw_.of {A : Array Value} {U : State} (h : ∀ w ∈ lw_tbl, w.before A U = true) : nw_ U := fun q hq => va_Nw.of rfl (h _ (nw_in q hq))
/-- what a method knows of the classes: their slots, byte and int arrays, the links of nest mates, arrays of int arrays (their class is kept at place 100) -/
def hk_ (D : va_G) (cB cI : ClassId) (U : State) : Prop := va_K D vwCl [(cB, .byte), (cI, .int)] U ∧ nw_ U ∧ ArrOfT U (D.1 100) (.array .int)
theorem hk_.warm {D : va_G} {cB cI : ClassId} {s U : State} (hW : s.WarmedH U.vm) (h : hk_ D cB cI s) : hk_ D cB cI U := ⟨va_K.moved hW.alike h.1, h.2.1.warm hW, arrOfT_moved hW.alike h.2.2⟩
theorem hk_.calling {D : va_G} {cB cI : ClassId} {U : State} {g : JFrame} {mk : MethodId} {a : Array Value} (h : hk_ D cB cI U) : hk_ D cB cI (U.calling g mk a) := ⟨va_K.moved (u := U) (U := U.calling g mk a) (Vm.Alike.refl U.vm) h.1, h.2.1.same rfl, arrOfT_moved (u := U) (E := U.calling g mk a) (Vm.Alike.refl U.vm) h.2.2⟩
