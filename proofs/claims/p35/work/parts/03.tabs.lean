/-! the tables' words that a method may rest on -/
def g_nest (w : Cond) : Bool := match w with
  | .fieldLinkNest _ _ _ _ _ _ => true
  | .methodLinkNest _ _ _ _ => true
  | .castable _ _ => true
  | .declares _ => true
  | _ => false
def g_GW : List Cond := lw_tbl.filter goodWord
def g_NW : List Cond := lw_tbl.filter g_nest
theorem g_mem {i : Nat} {w : Cond} (h : lw_tbl[i]? = some w) (hg : goodWord w = true) : w ∈ g_GW := List.mem_filter.mpr ⟨List.mem_of_getElem? h, hg⟩
theorem g_memN {i : Nat} {w : Cond} (h : lw_tbl[i]? = some w) (hg : g_nest w = true) : w ∈ g_NW := List.mem_filter.mpr ⟨List.mem_of_getElem? h, hg⟩
theorem g_goodIn {c : Cond} (h : c ∈ g_GW) : GoodIn g_GW (c :: g_GW) := by
  have hall : ∀ w ∈ g_GW, goodWord w = true := fun w hw => (List.mem_filter.mp hw).2
  intro w hw
  rcases List.mem_cons.mp hw with rfl | hw
  · exact ⟨h, good_of_word (hall _ h)⟩
  · exact ⟨hw, good_of_word (hall _ hw)⟩
def RX0 : String := "Quasigrove$Filling"
def TX0 : u_T := fun k => match k with
  | _ => ("", "", "", false)
def tyX0 : Nat → FieldType := fun k => match k with
  | _ => .int
theorem nmX0 : ∀ a, a < 0 → ∀ b, b < 0 → a ≠ b → (TX0 a).2.1 ≠ (TX0 b).2.1 := by decide +kernel
theorem tyX0_ok : ∀ k, k < 0 → parseFieldDescriptor (TX0 k).2.2.1 = some (tyX0 k) := by decide +kernel
abbrev cX0_firstForced : ByteArray := prog_2_method_7_code
def yX0_firstForced : MethodName := ⟨RX0, "firstForced", "(LQuasigrove$Grid;)I"⟩
abbrev cX0_fillForced : ByteArray := prog_2_method_8_code
def yX0_fillForced : MethodName := ⟨RX0, "fillForced", "(LQuasigrove$Grid;)I"⟩
abbrev cX0_isForced : ByteArray := prog_2_method_9_code
def yX0_isForced : MethodName := ⟨RX0, "isForced", "(LQuasigrove$Grid;III)Z"⟩
abbrev cX0_isAloneInRow : ByteArray := prog_2_method_10_code
def yX0_isAloneInRow : MethodName := ⟨RX0, "isAloneInRow", "(LQuasigrove$Grid;III)Z"⟩
abbrev cX0_isAloneInColumn : ByteArray := prog_2_method_11_code
def yX0_isAloneInColumn : MethodName := ⟨RX0, "isAloneInColumn", "(LQuasigrove$Grid;III)Z"⟩
def RX1 : String := "Quasigrove$Game"
def TX1 : u_T := fun k => match k with
  | _ => ("", "", "", false)
def tyX1 : Nat → FieldType := fun k => match k with
  | _ => .int
theorem nmX1 : ∀ a, a < 0 → ∀ b, b < 0 → a ≠ b → (TX1 a).2.1 ≠ (TX1 b).2.1 := by decide +kernel
theorem tyX1_ok : ∀ k, k < 0 → parseFieldDescriptor (TX1 k).2.2.1 = some (tyX1 k) := by decide +kernel
def RX2 : String := "Quasigrove$Grid"
def TX2 : u_T := fun k => match k with
  | 0 => ("Quasigrove$Grid", "signs", "[I", true)
  | 1 => ("Quasigrove$Grid", "rowSets", "[I", true)
  | 2 => ("Quasigrove$Grid", "columnSets", "[I", true)
  | 3 => ("Quasigrove$Grid", "order", "I", false)
  | _ => ("Quasigrove$Grid", "filled", "I", false)
def tyX2 : Nat → FieldType := fun k => match k with
  | 0 => .array .int
  | 1 => .array .int
  | 2 => .array .int
  | 3 => .int
  | _ => .int
theorem nmX2 : ∀ a, a < 5 → ∀ b, b < 5 → a ≠ b → (TX2 a).2.1 ≠ (TX2 b).2.1 := by decide +kernel
theorem tyX2_ok : ∀ k, k < 5 → parseFieldDescriptor (TX2 k).2.2.1 = some (tyX2 k) := by decide +kernel
abbrev cX2_init : ByteArray := prog_4_method_1_code
def yX2_init : MethodName := ⟨RX2, "<init>", "()V"⟩
abbrev cX2_clear : ByteArray := prog_4_method_2_code
def yX2_clear : MethodName := ⟨RX2, "clear", "(I)V"⟩
abbrev cX2_copy : ByteArray := prog_4_method_3_code
def yX2_copy : MethodName := ⟨RX2, "copy", "(LQuasigrove$Grid;)V"⟩
abbrev cX2_has : ByteArray := prog_4_method_4_code
def yX2_has : MethodName := ⟨RX2, "has", "(II)Z"⟩
abbrev cX2_isLine : ByteArray := prog_4_method_5_code
def yX2_isLine : MethodName := ⟨RX2, "isLine", "(I)Z"⟩
abbrev cX2_signAt : ByteArray := prog_4_method_6_code
def yX2_signAt : MethodName := ⟨RX2, "signAt", "(II)I"⟩
abbrev cX2_columnOf : ByteArray := prog_4_method_7_code
def yX2_columnOf : MethodName := ⟨RX2, "columnOf", "(II)I"⟩
abbrev cX2_allSigns : ByteArray := prog_4_method_8_code
def yX2_allSigns : MethodName := ⟨RX2, "allSigns", "()I"⟩
abbrev cX2_optionsAt : ByteArray := prog_4_method_9_code
def yX2_optionsAt : MethodName := ⟨RX2, "optionsAt", "(II)I"⟩
abbrev cX2_hasInLines : ByteArray := prog_4_method_10_code
def yX2_hasInLines : MethodName := ⟨RX2, "hasInLines", "(III)Z"⟩
abbrev cX2_set : ByteArray := prog_4_method_11_code
def yX2_set : MethodName := ⟨RX2, "set", "(III)V"⟩
abbrev cX2_isRowFull : ByteArray := prog_4_method_14_code
def yX2_isRowFull : MethodName := ⟨RX2, "isRowFull", "(I)Z"⟩
abbrev cX2_deadCells : ByteArray := prog_4_method_15_code
def yX2_deadCells : MethodName := ⟨RX2, "deadCells", "()I"⟩
abbrev cX2_turnRows : ByteArray := prog_4_method_16_code
def yX2_turnRows : MethodName := ⟨RX2, "turnRows", "(III)I"⟩
abbrev cX2_exchange : ByteArray := prog_4_method_17_code
def yX2_exchange : MethodName := ⟨RX2, "exchange", "(III)V"⟩
def RX3 : String := "Quasigrove$Laws"
def TX3 : u_T := fun k => match k with
  | _ => ("", "", "", false)
def tyX3 : Nat → FieldType := fun k => match k with
  | _ => .int
theorem nmX3 : ∀ a, a < 0 → ∀ b, b < 0 → a ≠ b → (TX3 a).2.1 ≠ (TX3 b).2.1 := by decide +kernel
theorem tyX3_ok : ∀ k, k < 0 → parseFieldDescriptor (TX3 k).2.2.1 = some (tyX3 k) := by decide +kernel
def RX4 : String := "Quasigrove$Maps"
def TX4 : u_T := fun k => match k with
  | 0 => ("Quasigrove$Maps", "images", "[I", true)
  | 1 => ("Quasigrove$Maps", "pairs", "[I", true)
  | _ => ("Quasigrove$Maps", "draft", "[I", true)
def tyX4 : Nat → FieldType := fun k => match k with
  | 0 => .array .int
  | 1 => .array .int
  | _ => .array .int
theorem nmX4 : ∀ a, a < 3 → ∀ b, b < 3 → a ≠ b → (TX4 a).2.1 ≠ (TX4 b).2.1 := by decide +kernel
theorem tyX4_ok : ∀ k, k < 3 → parseFieldDescriptor (TX4 k).2.2.1 = some (tyX4 k) := by decide +kernel
abbrev cX4_init : ByteArray := prog_6_method_1_code
def yX4_init : MethodName := ⟨RX4, "<init>", "()V"⟩
abbrev cX4_arrange : ByteArray := prog_6_method_2_code
def yX4_arrange : MethodName := ⟨RX4, "arrange", "(I)V"⟩
def RX5 : String := "Quasigrove$Mating"
def TX5 : u_T := fun k => match k with
  | 0 => ("Quasigrove$Mating", "maps", "LQuasigrove$Maps;", true)
  | 1 => ("Quasigrove$Mating", "transversals", "[I", true)
  | 2 => ("Quasigrove$Mating", "chosen", "[I", true)
  | 3 => ("Quasigrove$Mating", "draft", "LQuasigrove$Grid;", true)
  | 4 => ("Quasigrove$Mating", "lowest", "LQuasigrove$Grid;", true)
  | 5 => ("Quasigrove$Mating", "found", "I", false)
  | _ => ("Quasigrove$Mating", "laid", "I", false)
def tyX5 : Nat → FieldType := fun k => match k with
  | 0 => .object "Quasigrove$Maps"
  | 1 => .array .int
  | 2 => .array .int
  | 3 => .object "Quasigrove$Grid"
  | 4 => .object "Quasigrove$Grid"
  | 5 => .int
  | _ => .int
theorem nmX5 : ∀ a, a < 7 → ∀ b, b < 7 → a ≠ b → (TX5 a).2.1 ≠ (TX5 b).2.1 := by decide +kernel
theorem tyX5_ok : ∀ k, k < 7 → parseFieldDescriptor (TX5 k).2.2.1 = some (tyX5 k) := by decide +kernel
abbrev cX5_init : ByteArray := prog_7_method_1_code
def yX5_init : MethodName := ⟨RX5, "<init>", "(LQuasigrove$Maps;)V"⟩
def RX6 : String := "Quasigrove$Move"
def TX6 : u_T := fun k => match k with
  | _ => ("", "", "", false)
def tyX6 : Nat → FieldType := fun k => match k with
  | _ => .int
theorem nmX6 : ∀ a, a < 0 → ∀ b, b < 0 → a ≠ b → (TX6 a).2.1 ≠ (TX6 b).2.1 := by decide +kernel
theorem tyX6_ok : ∀ k, k < 0 → parseFieldDescriptor (TX6 k).2.2.1 = some (tyX6 k) := by decide +kernel
abbrev cX6_packed : ByteArray := prog_8_method_2_code
def yX6_packed : MethodName := ⟨RX6, "packed", "(III)I"⟩
abbrev cX6_row : ByteArray := prog_8_method_3_code
def yX6_row : MethodName := ⟨RX6, "row", "(I)I"⟩
abbrev cX6_column : ByteArray := prog_8_method_4_code
def yX6_column : MethodName := ⟨RX6, "column", "(I)I"⟩
abbrev cX6_sign : ByteArray := prog_8_method_5_code
def yX6_sign : MethodName := ⟨RX6, "sign", "(I)I"⟩
abbrev cX6_told : ByteArray := prog_8_method_6_code
def yX6_told : MethodName := ⟨RX6, "told", "(II)I"⟩
def RX7 : String := "Quasigrove$RowFilling"
def TX7 : u_T := fun k => match k with
  | 0 => ("Quasigrove$RowFilling", "maps", "LQuasigrove$Maps;", true)
  | _ => ("Quasigrove$RowFilling", "allowed", "[I", true)
def tyX7 : Nat → FieldType := fun k => match k with
  | 0 => .object "Quasigrove$Maps"
  | _ => .array .int
theorem nmX7 : ∀ a, a < 2 → ∀ b, b < 2 → a ≠ b → (TX7 a).2.1 ≠ (TX7 b).2.1 := by decide +kernel
theorem tyX7_ok : ∀ k, k < 2 → parseFieldDescriptor (TX7 k).2.2.1 = some (tyX7 k) := by decide +kernel
abbrev cX7_init : ByteArray := prog_9_method_1_code
def yX7_init : MethodName := ⟨RX7, "<init>", "(LQuasigrove$Maps;)V"⟩
def RX8 : String := "Quasigrove$Symmetry"
def TX8 : u_T := fun k => match k with
  | 0 => ("Quasigrove$Symmetry", "maps", "LQuasigrove$Maps;", true)
  | 1 => ("Quasigrove$Symmetry", "makers", "[I", true)
  | 2 => ("Quasigrove$Symmetry", "members", "[I", true)
  | 3 => ("Quasigrove$Symmetry", "isMember", "[Z", true)
  | 4 => ("Quasigrove$Symmetry", "signMap", "[I", true)
  | 5 => ("Quasigrove$Symmetry", "makerCount", "I", false)
  | _ => ("Quasigrove$Symmetry", "memberCount", "I", false)
def tyX8 : Nat → FieldType := fun k => match k with
  | 0 => .object "Quasigrove$Maps"
  | 1 => .array .int
  | 2 => .array .int
  | 3 => .array .boolean
  | 4 => .array .int
  | 5 => .int
  | _ => .int
theorem nmX8 : ∀ a, a < 7 → ∀ b, b < 7 → a ≠ b → (TX8 a).2.1 ≠ (TX8 b).2.1 := by decide +kernel
theorem tyX8_ok : ∀ k, k < 7 → parseFieldDescriptor (TX8 k).2.2.1 = some (tyX8 k) := by decide +kernel
abbrev cX8_init : ByteArray := prog_10_method_1_code
def yX8_init : MethodName := ⟨RX8, "<init>", "(LQuasigrove$Maps;)V"⟩
def RX9 : String := "Quasigrove$Tape"
def TX9 : u_T := fun k => match k with
  | 0 => ("Quasigrove$Tape", "characters", "[I", true)
  | 1 => ("Quasigrove$Tape", "wordsAt", "[I", true)
  | 2 => ("Quasigrove$Tape", "values", "[I", true)
  | _ => ("Quasigrove$Tape", "length", "I", false)
def tyX9 : Nat → FieldType := fun k => match k with
  | 0 => .array .int
  | 1 => .array .int
  | 2 => .array .int
  | _ => .int
theorem nmX9 : ∀ a, a < 4 → ∀ b, b < 4 → a ≠ b → (TX9 a).2.1 ≠ (TX9 b).2.1 := by decide +kernel
theorem tyX9_ok : ∀ k, k < 4 → parseFieldDescriptor (TX9 k).2.2.1 = some (tyX9 k) := by decide +kernel
abbrev cX9_init : ByteArray := prog_11_method_1_code
def yX9_init : MethodName := ⟨RX9, "<init>", "()V"⟩
def RX10 : String := "Quasigrove$Telling"
def TX10 : u_T := fun k => match k with
  | 0 => ("Quasigrove$Telling", "maps", "LQuasigrove$Maps;", true)
  | 1 => ("Quasigrove$Telling", "trades", "[I", true)
  | _ => ("Quasigrove$Telling", "kept", "I", false)
def tyX10 : Nat → FieldType := fun k => match k with
  | 0 => .object "Quasigrove$Maps"
  | 1 => .array .int
  | _ => .int
theorem nmX10 : ∀ a, a < 3 → ∀ b, b < 3 → a ≠ b → (TX10 a).2.1 ≠ (TX10 b).2.1 := by decide +kernel
theorem tyX10_ok : ∀ k, k < 3 → parseFieldDescriptor (TX10 k).2.2.1 = some (tyX10 k) := by decide +kernel
abbrev cX10_init : ByteArray := prog_12_method_1_code
def yX10_init : MethodName := ⟨RX10, "<init>", "(LQuasigrove$Maps;)V"⟩
def RX11 : String := "Quasigrove"
def TX11 : u_T := fun k => match k with
  | 0 => ("Quasigrove", "grids", "[LQuasigrove$Grid;", true)
  | 1 => ("Quasigrove", "work", "LQuasigrove$Grid;", true)
  | 2 => ("Quasigrove", "maps", "LQuasigrove$Maps;", true)
  | 3 => ("Quasigrove", "tape", "LQuasigrove$Tape;", true)
  | 4 => ("Quasigrove", "rowFilling", "LQuasigrove$RowFilling;", true)
  | 5 => ("Quasigrove", "telling", "LQuasigrove$Telling;", true)
  | 6 => ("Quasigrove", "symmetry", "LQuasigrove$Symmetry;", true)
  | 7 => ("Quasigrove", "mating", "LQuasigrove$Mating;", true)
  | _ => ("Quasigrove", "made", "I", false)
def tyX11 : Nat → FieldType := fun k => match k with
  | 0 => .array (.object "Quasigrove$Grid")
  | 1 => .object "Quasigrove$Grid"
  | 2 => .object "Quasigrove$Maps"
  | 3 => .object "Quasigrove$Tape"
  | 4 => .object "Quasigrove$RowFilling"
  | 5 => .object "Quasigrove$Telling"
  | 6 => .object "Quasigrove$Symmetry"
  | 7 => .object "Quasigrove$Mating"
  | _ => .int
theorem nmX11 : ∀ a, a < 9 → ∀ b, b < 9 → a ≠ b → (TX11 a).2.1 ≠ (TX11 b).2.1 := by decide +kernel
theorem tyX11_ok : ∀ k, k < 9 → parseFieldDescriptor (TX11 k).2.2.1 = some (tyX11 k) := by decide +kernel
abbrev cX11_init : ByteArray := prog_1_method_1_code
def yX11_init : MethodName := ⟨RX11, "<init>", "()V"⟩
abbrev cX11_grid : ByteArray := prog_1_method_2_code
def yX11_grid : MethodName := ⟨RX11, "grid", "(I)I"⟩
abbrev cX11_linear : ByteArray := prog_1_method_3_code
def yX11_linear : MethodName := ⟨RX11, "linear", "(IIII)I"⟩
abbrev cX11_put : ByteArray := prog_1_method_4_code
def yX11_put : MethodName := ⟨RX11, "put", "(IIII)I"⟩
abbrev cX11_conjugate : ByteArray := prog_1_method_6_code
def yX11_conjugate : MethodName := ⟨RX11, "conjugate", "(II)I"⟩
abbrev cX11_cell : ByteArray := prog_1_method_7_code
def yX11_cell : MethodName := ⟨RX11, "cell", "(III)I"⟩
abbrev cX11_of : ByteArray := prog_1_method_8_code
def yX11_of : MethodName := ⟨RX11, "of", "(II)I"⟩
abbrev cX11_distance : ByteArray := prog_1_method_9_code
def yX11_distance : MethodName := ⟨RX11, "distance", "(II)I"⟩
abbrev cX11_turn : ByteArray := prog_1_method_10_code
def yX11_turn : MethodName := ⟨RX11, "turn", "(IIII)I"⟩
abbrev cX11_can : ByteArray := prog_1_method_12_code
def yX11_can : MethodName := ⟨RX11, "can", "(III)I"⟩
abbrev cX11_forced : ByteArray := prog_1_method_16_code
def yX11_forced : MethodName := ⟨RX11, "forced", "(I)I"⟩
abbrev cX11_logic : ByteArray := prog_1_method_17_code
def yX11_logic : MethodName := ⟨RX11, "logic", "(I)I"⟩
abbrev cX11_gridAt : ByteArray := prog_1_method_34_code
def yX11_gridAt : MethodName := ⟨RX11, "gridAt", "(I)LQuasigrove$Grid;"⟩
abbrev cX11_newGrid : ByteArray := prog_1_method_35_code
def yX11_newGrid : MethodName := ⟨RX11, "newGrid", "(I)LQuasigrove$Grid;"⟩
abbrev cX11_needCell : ByteArray := prog_1_method_36_code
def yX11_needCell : MethodName := ⟨RX11, "needCell", "(LQuasigrove$Grid;II)V"⟩
abbrev cX11_needArgument : ByteArray := prog_1_method_37_code
def yX11_needArgument : MethodName := ⟨RX11, "needArgument", "(Z)V"⟩
abbrev cX11_needState : ByteArray := prog_1_method_38_code
def yX11_needState : MethodName := ⟨RX11, "needState", "(Z)V"⟩
abbrev cX11_isFrom : ByteArray := prog_1_method_39_code
def yX11_isFrom : MethodName := ⟨RX11, "isFrom", "(III)Z"⟩
abbrev cX11_isIn : ByteArray := prog_1_method_40_code
def yX11_isIn : MethodName := ⟨RX11, "isIn", "(II)Z"⟩
abbrev cX11_remainder : ByteArray := prog_1_method_41_code
def yX11_remainder : MethodName := ⟨RX11, "remainder", "(II)I"⟩
abbrev cX11_reachesAll : ByteArray := prog_1_method_42_code
def yX11_reachesAll : MethodName := ⟨RX11, "reachesAll", "(II)Z"⟩
abbrev cX11_setConjugate : ByteArray := prog_1_method_43_code
def yX11_setConjugate : MethodName := ⟨RX11, "setConjugate", "(LQuasigrove$Grid;IIII)V"⟩
def RX12 : String := "QuasigroveModel"
def TX12 : u_T := fun k => match k with
  | _ => ("", "", "", false)
def tyX12 : Nat → FieldType := fun k => match k with
  | _ => .int
theorem nmX12 : ∀ a, a < 0 → ∀ b, b < 0 → a ≠ b → (TX12 a).2.1 ≠ (TX12 b).2.1 := by decide +kernel
theorem tyX12_ok : ∀ k, k < 0 → parseFieldDescriptor (TX12 k).2.2.1 = some (tyX12 k) := by decide +kernel
def RJ9 : String := "java/lang/Math"
abbrev cJ9_max_7cf53 : ByteArray := prog_19_method_65_code
def yJ9_max_7cf53 : MethodName := ⟨RJ9, "max", "(II)I"⟩
abbrev cJ9_min_7cf53 : ByteArray := prog_19_method_69_code
def yJ9_min_7cf53 : MethodName := ⟨RJ9, "min", "(II)I"⟩
def RJ0 : String := "java/lang/String"
def RL : String := "QuasigroveLaw"
abbrev cL_up : ByteArray := method_2_code
def yL_up : MethodName := ⟨RL, "up", "(II)I"⟩
abbrev cL_cell : ByteArray := method_3_code
def yL_cell : MethodName := ⟨RL, "cell", "([II)I"⟩
abbrev cL_told : ByteArray := method_4_code
def yL_told : MethodName := ⟨RL, "told", "(LQuasigrove;IIIII)I"⟩
abbrev cL_act : ByteArray := method_5_code
def yL_act : MethodName := ⟨RL, "act", "(LQuasigrove;IIIII)I"⟩
abbrev cL_set : ByteArray := method_6_code
def yL_set : MethodName := ⟨RL, "set", "([III)I"⟩
abbrev cL_forced : ByteArray := method_7_code
def yL_forced : MethodName := ⟨RL, "forced", "([II)I"⟩
abbrev cL_law : ByteArray := code
def yL_law : MethodName := ⟨RL, "law", "([I)Z"⟩
abbrev vwCl : List vw_C := [(RX2, TX2, 5), (RX4, TX4, 3), (RX5, TX5, 7), (RX7, TX7, 2), (RX8, TX8, 7), (RX9, TX9, 4), (RX10, TX10, 3), (RX11, TX11, 9)]
