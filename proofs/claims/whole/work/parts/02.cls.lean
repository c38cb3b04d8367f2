/-! ===== the classes: their fields (begun from the printed names) ===== -/
/-- the words that hold in every later state -/
def am_tb : List Cond := lw_tbl.filter goodWord
theorem am_tb_at {i : Nat} {w : Cond} (h : lw_tbl[i]? = some w) (hg : goodWord w = true) : w ∈ am_tb := List.mem_filter.mpr ⟨List.mem_of_getElem? h, hg⟩
theorem am_lay_good (C : String) (T : u_T) (k : Nat) : goodWord (u_lay C T k) = true := by
  unfold u_lay
  split <;> rfl
def RX0 : String := "TownForest$Forest"
def TX0 : u_T := fun k => match k with
  | 0 => ("TownForest$Forest", "parent", "[I", true)
  | 1 => ("TownForest$Forest", "preferred", "[I", true)
  | 2 => ("TownForest$Forest", "length", "[I", true)
  | 3 => ("TownForest$Forest", "cap", "[I", true)
  | 4 => ("TownForest$Forest", "value", "[I", true)
  | 5 => ("TownForest$Forest", "size", "[I", true)
  | 6 => ("TownForest$Forest", "towns", "I", false)
  | _ => ("TownForest$Forest", "switches", "I", false)
def tyX0 : Nat → FieldType := fun k => match k with
  | 0 => .array .int
  | 1 => .array .int
  | 2 => .array .int
  | 3 => .array .int
  | 4 => .array .int
  | 5 => .array .int
  | 6 => .int
  | _ => .int
theorem nmX0 : ∀ a, a < 8 → ∀ b, b < 8 → a ≠ b → (TX0 a).2.1 ≠ (TX0 b).2.1 := by decide +kernel
theorem tyX0_ok : ∀ k, k < 8 → parseFieldDescriptor (TX0 k).2.2.1 = some (tyX0 k) := by decide +kernel
theorem am_pl0 : (List.range 8).all (fun k => decide (lw_tbl[([123, 125, 127, 129, 131, 133, 135, 137] : List Nat).getD k 0]? = some (u_lay RX0 TX0 k))) = true := by decide +kernel
def RX1 : String := "TownForest$Gamble"
def TX1 : u_T := fun k => match k with
  | 0 => ("TownForest$Gamble", "trial", "LTownForest$Forest;", true)
  | 1 => ("TownForest$Gamble", "way", "LTownForest$Way;", true)
  | _ => ("TownForest$Gamble", "last", "I", false)
def tyX1 : Nat → FieldType := fun k => match k with
  | 0 => .object "TownForest$Forest"
  | 1 => .object "TownForest$Way"
  | _ => .int
theorem nmX1 : ∀ a, a < 3 → ∀ b, b < 3 → a ≠ b → (TX1 a).2.1 ≠ (TX1 b).2.1 := by decide +kernel
theorem tyX1_ok : ∀ k, k < 3 → parseFieldDescriptor (TX1 k).2.2.1 = some (tyX1 k) := by decide +kernel
theorem am_pl1 : (List.range 3).all (fun k => decide (lw_tbl[([329, 331, 333] : List Nat).getD k 0]? = some (u_lay RX1 TX1 k))) = true := by decide +kernel
def RX2 : String := "TownForest$History"
def TX2 : u_T := fun k => match k with
  | 0 => ("TownForest$History", "states", "[LTownForest$Forest;", true)
  | 1 => ("TownForest$History", "oldest", "I", false)
  | _ => ("TownForest$History", "steps", "I", false)
def tyX2 : Nat → FieldType := fun k => match k with
  | 0 => .array (.object "TownForest$Forest")
  | 1 => .int
  | _ => .int
theorem nmX2 : ∀ a, a < 3 → ∀ b, b < 3 → a ≠ b → (TX2 a).2.1 ≠ (TX2 b).2.1 := by decide +kernel
theorem tyX2_ok : ∀ k, k < 3 → parseFieldDescriptor (TX2 k).2.2.1 = some (tyX2 k) := by decide +kernel
theorem am_pl2 : (List.range 3).all (fun k => decide (lw_tbl[([243, 245, 247] : List Nat).getD k 0]? = some (u_lay RX2 TX2 k))) = true := by decide +kernel
def RX3 : String := "TownForest$Names"
def TX3 : u_T := fun k => match k with
  | 0 => ("TownForest$Names", "letters", "[I", true)
  | 1 => ("TownForest$Names", "towns", "I", false)
  | 2 => ("TownForest$Names", "seed", "I", false)
  | _ => ("TownForest$Names", "seedTold", "Z", false)
def tyX3 : Nat → FieldType := fun k => match k with
  | 0 => .array .int
  | 1 => .int
  | 2 => .int
  | _ => .boolean
theorem nmX3 : ∀ a, a < 4 → ∀ b, b < 4 → a ≠ b → (TX3 a).2.1 ≠ (TX3 b).2.1 := by decide +kernel
theorem tyX3_ok : ∀ k, k < 4 → parseFieldDescriptor (TX3 k).2.2.1 = some (tyX3 k) := by decide +kernel
theorem am_pl3 : (List.range 4).all (fun k => decide (lw_tbl[([155, 157, 159, 161] : List Nat).getD k 0]? = some (u_lay RX3 TX3 k))) = true := by decide +kernel
def RX4 : String := "TownForest$Reader"
def TX4 : u_T := fun k => match k with
  | 0 => ("TownForest$Reader", "bytes", "[I", false)
  | 1 => ("TownForest$Reader", "end", "I", false)
  | 2 => ("TownForest$Reader", "next", "I", false)
  | 3 => ("TownForest$Reader", "kind", "I", false)
  | 4 => ("TownForest$Reader", "start", "I", false)
  | 5 => ("TownForest$Reader", "letters", "I", false)
  | _ => ("TownForest$Reader", "number", "I", false)
def tyX4 : Nat → FieldType := fun k => match k with
  | 0 => .array .int
  | 1 => .int
  | 2 => .int
  | 3 => .int
  | 4 => .int
  | 5 => .int
  | _ => .int
theorem nmX4 : ∀ a, a < 7 → ∀ b, b < 7 → a ≠ b → (TX4 a).2.1 ≠ (TX4 b).2.1 := by decide +kernel
theorem tyX4_ok : ∀ k, k < 7 → parseFieldDescriptor (TX4 k).2.2.1 = some (tyX4 k) := by decide +kernel
theorem am_pl4 : (List.range 7).all (fun k => decide (lw_tbl[([187, 189, 191, 193, 195, 197, 199] : List Nat).getD k 0]? = some (u_lay RX4 TX4 k))) = true := by decide +kernel
def RX5 : String := "TownForest$Sight"
def TX5 : u_T := fun k => match k with
  | 0 => ("TownForest$Sight", "facts", "[I", true)
  | _ => ("TownForest$Sight", "some", "Z", false)
def tyX5 : Nat → FieldType := fun k => match k with
  | 0 => .array .int
  | _ => .boolean
theorem nmX5 : ∀ a, a < 2 → ∀ b, b < 2 → a ≠ b → (TX5 a).2.1 ≠ (TX5 b).2.1 := by decide +kernel
theorem tyX5_ok : ∀ k, k < 2 → parseFieldDescriptor (TX5 k).2.2.1 = some (tyX5 k) := by decide +kernel
theorem am_pl5 : (List.range 2).all (fun k => decide (lw_tbl[([260, 262] : List Nat).getD k 0]? = some (u_lay RX5 TX5 k))) = true := by decide +kernel
def RX6 : String := "TownForest$Survey"
def TX6 : u_T := fun k => match k with
  | 0 => ("TownForest$Survey", "row", "[I", true)
  | 1 => ("TownForest$Survey", "towns", "I", false)
  | 2 => ("TownForest$Survey", "open", "[I", true)
  | 3 => ("TownForest$Survey", "home", "[I", true)
  | 4 => ("TownForest$Survey", "between", "[[I", true)
  | 5 => ("TownForest$Survey", "reach", "[I", true)
  | _ => ("TownForest$Survey", "pair", "[I", true)
def tyX6 : Nat → FieldType := fun k => match k with
  | 0 => .array .int
  | 1 => .int
  | 2 => .array .int
  | 3 => .array .int
  | 4 => .array (.array .int)
  | 5 => .array .int
  | _ => .array .int
theorem nmX6 : ∀ a, a < 7 → ∀ b, b < 7 → a ≠ b → (TX6 a).2.1 ≠ (TX6 b).2.1 := by decide +kernel
theorem tyX6_ok : ∀ k, k < 7 → parseFieldDescriptor (TX6 k).2.2.1 = some (tyX6 k) := by decide +kernel
theorem am_pl6 : (List.range 7).all (fun k => decide (lw_tbl[([300, 302, 304, 306, 308, 310, 312] : List Nat).getD k 0]? = some (u_lay RX6 TX6 k))) = true := by decide +kernel
def RX7 : String := "TownForest$Teller"
def TX7 : u_T := fun k => match k with
  | 0 => ("TownForest$Teller", "reader", "LTownForest$Reader;", true)
  | 1 => ("TownForest$Teller", "forest", "LTownForest$Forest;", true)
  | 2 => ("TownForest$Teller", "names", "LTownForest$Names;", true)
  | 3 => ("TownForest$Teller", "lines", "I", false)
  | 4 => ("TownForest$Teller", "fault", "I", false)
  | _ => ("TownForest$Teller", "faultPlace", "I", false)
def tyX7 : Nat → FieldType := fun k => match k with
  | 0 => .object "TownForest$Reader"
  | 1 => .object "TownForest$Forest"
  | 2 => .object "TownForest$Names"
  | 3 => .int
  | 4 => .int
  | _ => .int
theorem nmX7 : ∀ a, a < 6 → ∀ b, b < 6 → a ≠ b → (TX7 a).2.1 ≠ (TX7 b).2.1 := by decide +kernel
theorem tyX7_ok : ∀ k, k < 6 → parseFieldDescriptor (TX7 k).2.2.1 = some (tyX7 k) := by decide +kernel
theorem am_pl7 : (List.range 6).all (fun k => decide (lw_tbl[([217, 219, 221, 223, 225, 227] : List Nat).getD k 0]? = some (u_lay RX7 TX7 k))) = true := by decide +kernel
def RX8 : String := "TownForest$Way"
def TX8 : u_T := fun k => match k with
  | 0 => ("TownForest$Way", "row", "[I", true)
  | _ => ("TownForest$Way", "towns", "I", false)
def tyX8 : Nat → FieldType := fun k => match k with
  | 0 => .array .int
  | _ => .int
theorem nmX8 : ∀ a, a < 2 → ∀ b, b < 2 → a ≠ b → (TX8 a).2.1 ≠ (TX8 b).2.1 := by decide +kernel
theorem tyX8_ok : ∀ k, k < 2 → parseFieldDescriptor (TX8 k).2.2.1 = some (tyX8 k) := by decide +kernel
theorem am_pl8 : (List.range 2).all (fun k => decide (lw_tbl[([277, 279] : List Nat).getD k 0]? = some (u_lay RX8 TX8 k))) = true := by decide +kernel
def RX9 : String := "TownForest"
def TX9 : u_T := fun k => match k with
  | 0 => ("TownForest", "tape", "[I", true)
  | 1 => ("TownForest", "tapeBytes", "I", false)
  | 2 => ("TownForest", "forest", "LTownForest$Forest;", true)
  | 3 => ("TownForest", "names", "LTownForest$Names;", true)
  | 4 => ("TownForest", "teller", "LTownForest$Teller;", true)
  | 5 => ("TownForest", "history", "LTownForest$History;", true)
  | 6 => ("TownForest", "image", "LTownForest$Forest;", true)
  | 7 => ("TownForest", "imageKept", "Z", false)
  | 8 => ("TownForest", "sight", "LTownForest$Sight;", true)
  | 9 => ("TownForest", "way", "LTownForest$Way;", true)
  | 10 => ("TownForest", "survey", "LTownForest$Survey;", true)
  | _ => ("TownForest", "gamble", "LTownForest$Gamble;", true)
def tyX9 : Nat → FieldType := fun k => match k with
  | 0 => .array .int
  | 1 => .int
  | 2 => .object "TownForest$Forest"
  | 3 => .object "TownForest$Names"
  | 4 => .object "TownForest$Teller"
  | 5 => .object "TownForest$History"
  | 6 => .object "TownForest$Forest"
  | 7 => .boolean
  | 8 => .object "TownForest$Sight"
  | 9 => .object "TownForest$Way"
  | 10 => .object "TownForest$Survey"
  | _ => .object "TownForest$Gamble"
theorem nmX9 : ∀ a, a < 12 → ∀ b, b < 12 → a ≠ b → (TX9 a).2.1 ≠ (TX9 b).2.1 := by decide +kernel
theorem tyX9_ok : ∀ k, k < 12 → parseFieldDescriptor (TX9 k).2.2.1 = some (tyX9 k) := by decide +kernel
theorem am_pl9 : (List.range 12).all (fun k => decide (lw_tbl[([348, 350, 352, 354, 356, 358, 360, 362, 364, 366, 368, 370] : List Nat).getD k 0]? = some (u_lay RX9 TX9 k))) = true := by decide +kernel
def RX10 : String := "TownForestModel"
def TX10 : u_T := fun k => match k with
  | 0 => ("TownForestModel", "tape", "[I", true)
  | 1 => ("TownForestModel", "tapeSize", "I", false)
  | 2 => ("TownForestModel", "thrown", "I", false)
  | 3 => ("TownForestModel", "words", "[I", true)
  | 4 => ("TownForestModel", "fault", "I", false)
  | 5 => ("TownForestModel", "faultPlace", "I", false)
  | 6 => ("TownForestModel", "stop", "I", false)
  | 7 => ("TownForestModel", "next", "I", false)
  | 8 => ("TownForestModel", "kind", "I", false)
  | 9 => ("TownForestModel", "which", "I", false)
  | 10 => ("TownForestModel", "at", "I", false)
  | 11 => ("TownForestModel", "all", "[I", true)
  | 12 => ("TownForestModel", "bank", "I", false)
  | 13 => ("TownForestModel", "undos", "I", false)
  | 14 => ("TownForestModel", "isImage", "Z", false)
  | 15 => ("TownForestModel", "towns", "I", false)
  | 16 => ("TownForestModel", "seedTold", "I", false)
  | 17 => ("TownForestModel", "names", "[I", true)
  | 18 => ("TownForestModel", "namesRead", "[I", true)
  | 19 => ("TownForestModel", "townsRead", "I", false)
  | 20 => ("TownForestModel", "seedRead", "I", false)
  | 21 => ("TownForestModel", "isSeed", "Z", false)
  | 22 => ("TownForestModel", "got", "I", false)
  | 23 => ("TownForestModel", "seen", "[I", true)
  | 24 => ("TownForestModel", "isSeen", "Z", false)
  | _ => ("TownForestModel", "drawn", "J", false)
def tyX10 : Nat → FieldType := fun k => match k with
  | 0 => .array .int
  | 1 => .int
  | 2 => .int
  | 3 => .array .int
  | 4 => .int
  | 5 => .int
  | 6 => .int
  | 7 => .int
  | 8 => .int
  | 9 => .int
  | 10 => .int
  | 11 => .array .int
  | 12 => .int
  | 13 => .int
  | 14 => .boolean
  | 15 => .int
  | 16 => .int
  | 17 => .array .int
  | 18 => .array .int
  | 19 => .int
  | 20 => .int
  | 21 => .boolean
  | 22 => .int
  | 23 => .array .int
  | 24 => .boolean
  | _ => .long
theorem nmX10 : ∀ a, a < 26 → ∀ b, b < 26 → a ≠ b → (TX10 a).2.1 ≠ (TX10 b).2.1 := by decide +kernel
theorem tyX10_ok : ∀ k, k < 26 → parseFieldDescriptor (TX10 k).2.2.1 = some (tyX10 k) := by decide +kernel
theorem am_pl10 : (List.range 26).all (fun k => decide (lw_tbl[([1091, 1093, 1095, 1097, 1099, 1101, 1103, 1105, 1107, 1109, 1111, 1113, 1115, 1117, 1119, 1121, 1123, 1125, 1127, 1129, 1131, 1133, 1135, 1137, 1139, 1141] : List Nat).getD k 0]? = some (u_lay RX10 TX10 k))) = true := by decide +kernel
theorem am_pl_of {N : Nat} {C : String} {T : u_T} {ps : List Nat} (h : (List.range N).all (fun k => decide (lw_tbl[ps.getD k 0]? = some (u_lay C T k))) = true) : ∀ w ∈ u_ws C T N, w ∈ am_tb := by
  intro w hw
  obtain ⟨k, hk, rfl⟩ := List.mem_map.mp hw
  exact am_tb_at (of_decide_eq_true (List.all_eq_true.mp h k hk)) (am_lay_good C T k)
abbrev am_cs : List vw_C := [(RX0, TX0, 8), (RX1, TX1, 3), (RX2, TX2, 3), (RX3, TX3, 4), (RX4, TX4, 7), (RX5, TX5, 2), (RX6, TX6, 7), (RX7, TX7, 6), (RX8, TX8, 2), (RX9, TX9, 12), (RX10, TX10, 26)]
def am_ty (ci : Nat) : Nat → FieldType := match ci with
  | 0 => tyX0
  | 1 => tyX1
  | 2 => tyX2
  | 3 => tyX3
  | 4 => tyX4
  | 5 => tyX5
  | 6 => tyX6
  | 7 => tyX7
  | 8 => tyX8
  | 9 => tyX9
  | _ => tyX10
theorem am_cls {ci : Nat} {C : String} {T : u_T} {N : Nat} (h : am_cs[ci]? = some (C, T, N)) : (∀ w ∈ u_ws C T N, w ∈ am_tb) ∧ (∀ k, k < N → parseFieldDescriptor (T k).2.2.1 = some (am_ty ci k)) ∧ (∀ a, a < N → ∀ b, b < N → a ≠ b → (T a).2.1 ≠ (T b).2.1) := by
  match ci, h with
  | 0, h => cases h; exact ⟨am_pl_of am_pl0, tyX0_ok, nmX0⟩
  | 1, h => cases h; exact ⟨am_pl_of am_pl1, tyX1_ok, nmX1⟩
  | 2, h => cases h; exact ⟨am_pl_of am_pl2, tyX2_ok, nmX2⟩
  | 3, h => cases h; exact ⟨am_pl_of am_pl3, tyX3_ok, nmX3⟩
  | 4, h => cases h; exact ⟨am_pl_of am_pl4, tyX4_ok, nmX4⟩
  | 5, h => cases h; exact ⟨am_pl_of am_pl5, tyX5_ok, nmX5⟩
  | 6, h => cases h; exact ⟨am_pl_of am_pl6, tyX6_ok, nmX6⟩
  | 7, h => cases h; exact ⟨am_pl_of am_pl7, tyX7_ok, nmX7⟩
  | 8, h => cases h; exact ⟨am_pl_of am_pl8, tyX8_ok, nmX8⟩
  | 9, h => cases h; exact ⟨am_pl_of am_pl9, tyX9_ok, nmX9⟩
  | 10, h => cases h; exact ⟨am_pl_of am_pl10, tyX10_ok, nmX10⟩
  | _ + 11, h => simp [am_cs] at h
