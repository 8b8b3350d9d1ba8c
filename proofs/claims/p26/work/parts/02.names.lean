def RX0 : String := "BargeBallast$History"
def TX0 : u_T := fun k => match k with
  | 0 => ("BargeBallast$History", "rows", "[[I", true)
  | 1 => ("BargeBallast$History", "next", "I", false)
  | _ => ("BargeBallast$History", "length", "I", false)
def tyX0 : Nat → FieldType := fun k => match k with
  | 0 => .array (.array .int)
  | 1 => .int
  | _ => .int
abbrev wsX00 : List Cond := u_ws RX0 TX0 3
theorem nmX0 : ∀ a, a < 3 → ∀ b, b < 3 → a ≠ b → (TX0 a).2.1 ≠ (TX0 b).2.1 := by decide +kernel
theorem tyX0_ok : ∀ k, k < 3 → parseFieldDescriptor (TX0 k).2.2.1 = some (tyX0 k) := by decide +kernel
abbrev cX0_init : ByteArray := prog_2_method_1_code
def yX0_init : MethodName := ⟨RX0, "<init>", "()V"⟩
abbrev cX0_length : ByteArray := prog_2_method_2_code
def yX0_length : MethodName := ⟨RX0, "length", "()I"⟩
abbrev cX0_record : ByteArray := prog_2_method_3_code
def yX0_record : MethodName := ⟨RX0, "record", "(LBargeBallast$State;)V"⟩
abbrev cX0_bringBack : ByteArray := prog_2_method_4_code
def yX0_bringBack : MethodName := ⟨RX0, "bringBack", "(LBargeBallast$State;)V"⟩
def RX1 : String := "BargeBallast$Minutes"
def TX1 : u_T := fun k => match k with
  | _ => ("", "", "", false)
def tyX1 : Nat → FieldType := fun k => match k with
  | _ => .int
abbrev wsX10 : List Cond := u_ws RX1 TX1 0
theorem nmX1 : ∀ a, a < 0 → ∀ b, b < 0 → a ≠ b → (TX1 a).2.1 ≠ (TX1 b).2.1 := by decide +kernel
theorem tyX1_ok : ∀ k, k < 0 → parseFieldDescriptor (TX1 k).2.2.1 = some (tyX1 k) := by decide +kernel
abbrev cX1_run : ByteArray := prog_3_method_2_code
def yX1_run : MethodName := ⟨RX1, "run", "(LBargeBallast$State;II)V"⟩
abbrev cX1_leakOut : ByteArray := prog_3_method_3_code
def yX1_leakOut : MethodName := ⟨RX1, "leakOut", "(LBargeBallast$State;)V"⟩
abbrev cX1_shiftCargo : ByteArray := prog_3_method_4_code
def yX1_shiftCargo : MethodName := ⟨RX1, "shiftCargo", "(LBargeBallast$State;)V"⟩
def RX2 : String := "BargeBallast$OrderRow"
def TX2 : u_T := fun k => match k with
  | _ => ("", "", "", false)
def tyX2 : Nat → FieldType := fun k => match k with
  | _ => .int
abbrev wsX20 : List Cond := u_ws RX2 TX2 0
theorem nmX2 : ∀ a, a < 0 → ∀ b, b < 0 → a ≠ b → (TX2 a).2.1 ≠ (TX2 b).2.1 := by decide +kernel
theorem tyX2_ok : ∀ k, k < 0 → parseFieldDescriptor (TX2 k).2.2.1 = some (tyX2 k) := by decide +kernel
abbrev cX2_append : ByteArray := prog_4_method_2_code
def yX2_append : MethodName := ⟨RX2, "append", "(LBargeBallast$State;II)V"⟩
abbrev cX2_putAt : ByteArray := prog_4_method_3_code
def yX2_putAt : MethodName := ⟨RX2, "putAt", "(LBargeBallast$State;III)V"⟩
abbrev cX2_has : ByteArray := prog_4_method_4_code
def yX2_has : MethodName := ⟨RX2, "has", "(LBargeBallast$State;I)Z"⟩
abbrev cX2_strikeOut : ByteArray := prog_4_method_5_code
def yX2_strikeOut : MethodName := ⟨RX2, "strikeOut", "(LBargeBallast$State;I)I"⟩
abbrev cX2_workFirst : ByteArray := prog_4_method_6_code
def yX2_workFirst : MethodName := ⟨RX2, "workFirst", "(LBargeBallast$State;)V"⟩
abbrev cX2_takeFirstOff : ByteArray := prog_4_method_7_code
def yX2_takeFirstOff : MethodName := ⟨RX2, "takeFirstOff", "(LBargeBallast$State;)V"⟩
abbrev cX2_reasonToRefuse : ByteArray := prog_4_method_8_code
def yX2_reasonToRefuse : MethodName := ⟨RX2, "reasonToRefuse", "(LBargeBallast$State;II)I"⟩
def RX3 : String := "BargeBallast$OrderText"
def TX3 : u_T := fun k => match k with
  | 0 => ("BargeBallast$OrderText", "signs", "[C", true)
  | 1 => ("BargeBallast$OrderText", "length", "I", false)
  | 2 => ("BargeBallast$OrderText", "kinds", "[I", true)
  | 3 => ("BargeBallast$OrderText", "bys", "[I", true)
  | 4 => ("BargeBallast$OrderText", "orders", "I", false)
  | _ => ("BargeBallast$OrderText", "expected", "I", false)
def tyX3 : Nat → FieldType := fun k => match k with
  | 0 => .array .char
  | 1 => .int
  | 2 => .array .int
  | 3 => .array .int
  | 4 => .int
  | _ => .int
abbrev wsX30 : List Cond := u_ws RX3 TX3 6
theorem nmX3 : ∀ a, a < 6 → ∀ b, b < 6 → a ≠ b → (TX3 a).2.1 ≠ (TX3 b).2.1 := by decide +kernel
theorem tyX3_ok : ∀ k, k < 6 → parseFieldDescriptor (TX3 k).2.2.1 = some (tyX3 k) := by decide +kernel
abbrev cX3_init : ByteArray := prog_5_method_1_code
def yX3_init : MethodName := ⟨RX3, "<init>", "()V"⟩
abbrev cX3_length : ByteArray := prog_5_method_2_code
def yX3_length : MethodName := ⟨RX3, "length", "()I"⟩
def RX4 : String := "BargeBallast$Pump"
def TX4 : u_T := fun k => match k with
  | _ => ("", "", "", false)
def tyX4 : Nat → FieldType := fun k => match k with
  | _ => .int
abbrev wsX40 : List Cond := u_ws RX4 TX4 0
theorem nmX4 : ∀ a, a < 0 → ∀ b, b < 0 → a ≠ b → (TX4 a).2.1 ≠ (TX4 b).2.1 := by decide +kernel
theorem tyX4_ok : ∀ k, k < 0 → parseFieldDescriptor (TX4 k).2.2.1 = some (tyX4 k) := by decide +kernel
abbrev cX4_tankToFill : ByteArray := prog_6_method_2_code
def yX4_tankToFill : MethodName := ⟨RX4, "tankToFill", "(LBargeBallast$State;I)I"⟩
abbrev cX4_tankToEmpty : ByteArray := prog_6_method_3_code
def yX4_tankToEmpty : MethodName := ⟨RX4, "tankToEmpty", "(LBargeBallast$State;I)I"⟩
abbrev cX4_tankToLower : ByteArray := prog_6_method_4_code
def yX4_tankToLower : MethodName := ⟨RX4, "tankToLower", "(LBargeBallast$State;I)I"⟩
abbrev cX4_moveUnit : ByteArray := prog_6_method_5_code
def yX4_moveUnit : MethodName := ⟨RX4, "moveUnit", "(LBargeBallast$State;II)Z"⟩
abbrev cX4_fillUnit : ByteArray := prog_6_method_6_code
def yX4_fillUnit : MethodName := ⟨RX4, "fillUnit", "(LBargeBallast$State;I)Z"⟩
abbrev cX4_emptyUnit : ByteArray := prog_6_method_7_code
def yX4_emptyUnit : MethodName := ⟨RX4, "emptyUnit", "(LBargeBallast$State;I)Z"⟩
abbrev cX4_levelUnit : ByteArray := prog_6_method_8_code
def yX4_levelUnit : MethodName := ⟨RX4, "levelUnit", "(LBargeBallast$State;II)Z"⟩
abbrev cX4_moveBy : ByteArray := prog_6_method_9_code
def yX4_moveBy : MethodName := ⟨RX4, "moveBy", "(LBargeBallast$State;II)V"⟩
def RX5 : String := "BargeBallast$Soundings"
def TX5 : u_T := fun k => match k with
  | _ => ("", "", "", false)
def tyX5 : Nat → FieldType := fun k => match k with
  | _ => .int
abbrev wsX50 : List Cond := u_ws RX5 TX5 0
theorem nmX5 : ∀ a, a < 0 → ∀ b, b < 0 → a ≠ b → (TX5 a).2.1 ≠ (TX5 b).2.1 := by decide +kernel
theorem tyX5_ok : ∀ k, k < 0 → parseFieldDescriptor (TX5 k).2.2.1 = some (tyX5 k) := by decide +kernel
abbrev cX5_place : ByteArray := prog_7_method_2_code
def yX5_place : MethodName := ⟨RX5, "place", "(II)I"⟩
abbrev cX5_put : ByteArray := prog_7_method_3_code
def yX5_put : MethodName := ⟨RX5, "put", "(LBargeBallast$State;I)V"⟩
abbrev cX5_putAt : ByteArray := prog_7_method_4_code
def yX5_putAt : MethodName := ⟨RX5, "putAt", "(LBargeBallast$State;IIII)V"⟩
abbrev cX5_isLossTold : ByteArray := prog_7_method_5_code
def yX5_isLossTold : MethodName := ⟨RX5, "isLossTold", "(LBargeBallast$State;I)Z"⟩
abbrev cX5_loss : ByteArray := prog_7_method_6_code
def yX5_loss : MethodName := ⟨RX5, "loss", "(LBargeBallast$State;I)I"⟩
def RX6 : String := "BargeBallast$State"
def TX6 : u_T := fun k => match k with
  | _ => ("BargeBallast$State", "cells", "[I", true)
def tyX6 : Nat → FieldType := fun k => match k with
  | _ => .array .int
abbrev wsX60 : List Cond := u_ws RX6 TX6 1
theorem nmX6 : ∀ a, a < 1 → ∀ b, b < 1 → a ≠ b → (TX6 a).2.1 ≠ (TX6 b).2.1 := by decide +kernel
theorem tyX6_ok : ∀ k, k < 1 → parseFieldDescriptor (TX6 k).2.2.1 = some (tyX6 k) := by decide +kernel
abbrev cX6_init : ByteArray := prog_8_method_1_code
def yX6_init : MethodName := ⟨RX6, "<init>", "()V"⟩
abbrev cX6_at : ByteArray := prog_8_method_2_code
def yX6_at : MethodName := ⟨RX6, "at", "(I)I"⟩
abbrev cX6_put : ByteArray := prog_8_method_3_code
def yX6_put : MethodName := ⟨RX6, "put", "(II)V"⟩
abbrev cX6_add : ByteArray := prog_8_method_4_code
def yX6_add : MethodName := ⟨RX6, "add", "(II)V"⟩
abbrev cX6_copyTo : ByteArray := prog_8_method_5_code
def yX6_copyTo : MethodName := ⟨RX6, "copyTo", "([I)V"⟩
abbrev cX6_copyFrom : ByteArray := prog_8_method_6_code
def yX6_copyFrom : MethodName := ⟨RX6, "copyFrom", "([I)V"⟩
abbrev cX6_isIn : ByteArray := prog_8_method_7_code
def yX6_isIn : MethodName := ⟨RX6, "isIn", "(II)Z"⟩
abbrev cX6_waterIn : ByteArray := prog_8_method_8_code
def yX6_waterIn : MethodName := ⟨RX6, "waterIn", "(I)I"⟩
abbrev cX6_lostByLeaks : ByteArray := prog_8_method_9_code
def yX6_lostByLeaks : MethodName := ⟨RX6, "lostByLeaks", "()I"⟩
abbrev cX6_weight : ByteArray := prog_8_method_10_code
def yX6_weight : MethodName := ⟨RX6, "weight", "()I"⟩
abbrev cX6_trimMomentAbout : ByteArray := prog_8_method_11_code
def yX6_trimMomentAbout : MethodName := ⟨RX6, "trimMomentAbout", "(I)I"⟩
abbrev cX6_trim : ByteArray := prog_8_method_12_code
def yX6_trim : MethodName := ⟨RX6, "trim", "()I"⟩
abbrev cX6_listMoment : ByteArray := prog_8_method_13_code
def yX6_listMoment : MethodName := ⟨RX6, "listMoment", "()I"⟩
abbrev cX6_list : ByteArray := prog_8_method_14_code
def yX6_list : MethodName := ⟨RX6, "list", "()I"⟩
abbrev cX6_listOf : ByteArray := prog_8_method_15_code
def yX6_listOf : MethodName := ⟨RX6, "listOf", "(II)I"⟩
abbrev cX6_draughtOf : ByteArray := prog_8_method_16_code
def yX6_draughtOf : MethodName := ⟨RX6, "draughtOf", "(I)I"⟩
abbrev cX6_openTanks : ByteArray := prog_8_method_17_code
def yX6_openTanks : MethodName := ⟨RX6, "openTanks", "()I"⟩
abbrev cX6_groupsWith : ByteArray := prog_8_method_18_code
def yX6_groupsWith : MethodName := ⟨RX6, "groupsWith", "(I)I"⟩
abbrev cX6_emptiest : ByteArray := prog_8_method_19_code
def yX6_emptiest : MethodName := ⟨RX6, "emptiest", "(I)I"⟩
abbrev cX6_fullest : ByteArray := prog_8_method_20_code
def yX6_fullest : MethodName := ⟨RX6, "fullest", "(I)I"⟩
def RX7 : String := "BargeBallast$Uprighting"
def TX7 : u_T := fun k => match k with
  | 0 => ("BargeBallast$Uprighting", "tank", "I", false)
  | 1 => ("BargeBallast$Uprighting", "change", "I", false)
  | _ => ("BargeBallast$Uprighting", "list", "I", false)
def tyX7 : Nat → FieldType := fun k => match k with
  | 0 => .int
  | 1 => .int
  | _ => .int
abbrev wsX70 : List Cond := u_ws RX7 TX7 3
theorem nmX7 : ∀ a, a < 3 → ∀ b, b < 3 → a ≠ b → (TX7 a).2.1 ≠ (TX7 b).2.1 := by decide +kernel
theorem tyX7_ok : ∀ k, k < 3 → parseFieldDescriptor (TX7 k).2.2.1 = some (tyX7 k) := by decide +kernel
abbrev cX7_init : ByteArray := prog_9_method_1_code
def yX7_init : MethodName := ⟨RX7, "<init>", "(LBargeBallast$State;I)V"⟩
abbrev cX7_takeIfBetter : ByteArray := prog_9_method_2_code
def yX7_takeIfBetter : MethodName := ⟨RX7, "takeIfBetter", "(III)V"⟩
def RX8 : String := "BargeBallast"
def TX8 : u_T := fun k => match k with
  | 0 => ("BargeBallast", "now", "LBargeBallast$State;", true)
  | 1 => ("BargeBallast", "history", "LBargeBallast$History;", true)
  | 2 => ("BargeBallast", "snapshot", "[I", true)
  | 3 => ("BargeBallast", "hasSnapshot", "Z", false)
  | _ => ("BargeBallast", "text", "LBargeBallast$OrderText;", true)
def tyX8 : Nat → FieldType := fun k => match k with
  | 0 => .object "BargeBallast$State"
  | 1 => .object "BargeBallast$History"
  | 2 => .array .int
  | 3 => .boolean
  | _ => .object "BargeBallast$OrderText"
abbrev wsX80 : List Cond := u_ws RX8 TX8 5
theorem nmX8 : ∀ a, a < 5 → ∀ b, b < 5 → a ≠ b → (TX8 a).2.1 ≠ (TX8 b).2.1 := by decide +kernel
theorem tyX8_ok : ∀ k, k < 5 → parseFieldDescriptor (TX8 k).2.2.1 = some (tyX8 k) := by decide +kernel
abbrev cX8_init : ByteArray := prog_1_method_1_code
def yX8_init : MethodName := ⟨RX8, "<init>", "()V"⟩
abbrev cX8_load : ByteArray := prog_1_method_2_code
def yX8_load : MethodName := ⟨RX8, "load", "(III)I"⟩
abbrev cX8_leak : ByteArray := prog_1_method_3_code
def yX8_leak : MethodName := ⟨RX8, "leak", "(II)I"⟩
abbrev cX8_setGroup : ByteArray := prog_1_method_4_code
def yX8_setGroup : MethodName := ⟨RX8, "setGroup", "(II)I"⟩
abbrev cX8_set : ByteArray := prog_1_method_5_code
def yX8_set : MethodName := ⟨RX8, "set", "(II)I"⟩
abbrev cX8_order : ByteArray := prog_1_method_6_code
def yX8_order : MethodName := ⟨RX8, "order", "(II)I"⟩
abbrev cX8_strike : ByteArray := prog_1_method_8_code
def yX8_strike : MethodName := ⟨RX8, "strike", "(I)I"⟩
abbrev cX8_work : ByteArray := prog_1_method_9_code
def yX8_work : MethodName := ⟨RX8, "work", "(I)I"⟩
abbrev cX8_pass : ByteArray := prog_1_method_10_code
def yX8_pass : MethodName := ⟨RX8, "pass", "(I)I"⟩
abbrev cX8_sound : ByteArray := prog_1_method_11_code
def yX8_sound : MethodName := ⟨RX8, "sound", "(I)I"⟩
abbrev cX8_undo : ByteArray := prog_1_method_14_code
def yX8_undo : MethodName := ⟨RX8, "undo", "()I"⟩
abbrev cX8_tank : ByteArray := prog_1_method_17_code
def yX8_tank : MethodName := ⟨RX8, "tank", "(II)I"⟩
abbrev cX8_sounding : ByteArray := prog_1_method_18_code
def yX8_sounding : MethodName := ⟨RX8, "sounding", "(IIZ)I"⟩
abbrev cX8_hold : ByteArray := prog_1_method_19_code
def yX8_hold : MethodName := ⟨RX8, "hold", "(II)I"⟩
abbrev cX8_group : ByteArray := prog_1_method_20_code
def yX8_group : MethodName := ⟨RX8, "group", "(II)I"⟩
abbrev cX8_waiting : ByteArray := prog_1_method_21_code
def yX8_waiting : MethodName := ⟨RX8, "waiting", "(II)I"⟩
abbrev cX8_trimMoment : ByteArray := prog_1_method_22_code
def yX8_trimMoment : MethodName := ⟨RX8, "trimMoment", "(I)I"⟩
abbrev cX8_upright : ByteArray := prog_1_method_23_code
def yX8_upright : MethodName := ⟨RX8, "upright", "(II)I"⟩
abbrev cX8_count : ByteArray := prog_1_method_24_code
def yX8_count : MethodName := ⟨RX8, "count", "(I)I"⟩
abbrev cX8_isWithin : ByteArray := prog_1_method_25_code
def yX8_isWithin : MethodName := ⟨RX8, "isWithin", "(III)Z"⟩
abbrev cX8_isRightBy : ByteArray := prog_1_method_26_code
def yX8_isRightBy : MethodName := ⟨RX8, "isRightBy", "(II)Z"⟩
abbrev cX8_isValve : ByteArray := prog_1_method_27_code
def yX8_isValve : MethodName := ⟨RX8, "isValve", "(I)Z"⟩
abbrev cX8_change : ByteArray := prog_1_method_28_code
def yX8_change : MethodName := ⟨RX8, "change", "(II)I"⟩
def RX9 : String := "BargeBallastModel"
def TX9 : u_T := fun k => match k with
  | _ => ("", "", "", false)
def tyX9 : Nat → FieldType := fun k => match k with
  | _ => .int
abbrev wsX90 : List Cond := u_ws RX9 TX9 0
theorem nmX9 : ∀ a, a < 0 → ∀ b, b < 0 → a ≠ b → (TX9 a).2.1 ≠ (TX9 b).2.1 := by decide +kernel
theorem tyX9_ok : ∀ k, k < 0 → parseFieldDescriptor (TX9 k).2.2.1 = some (tyX9 k) := by decide +kernel
def RJ9 : String := "java/lang/Math"
def TJ9 : u_T := fun k => match k with
  | _ => ("", "", "", false)
def tyJ9 : Nat → FieldType := fun k => match k with
  | _ => .int
abbrev wsJ90 : List Cond := u_ws RJ9 TJ9 0
theorem nmJ9 : ∀ a, a < 0 → ∀ b, b < 0 → a ≠ b → (TJ9 a).2.1 ≠ (TJ9 b).2.1 := by decide +kernel
theorem tyJ9_ok : ∀ k, k < 0 → parseFieldDescriptor (TJ9 k).2.2.1 = some (tyJ9 k) := by decide +kernel
abbrev cJ9_abs_0f7a4 : ByteArray := prog_12_method_59_code
def yJ9_abs_0f7a4 : MethodName := ⟨RJ9, "abs", "(I)I"⟩
abbrev cJ9_min_7cf53 : ByteArray := prog_12_method_69_code
def yJ9_min_7cf53 : MethodName := ⟨RJ9, "min", "(II)I"⟩
def RJ10 : String := "java/lang/System"
def TJ10 : u_T := fun k => match k with
  | _ => ("", "", "", false)
def tyJ10 : Nat → FieldType := fun k => match k with
  | _ => .int
abbrev wsJ100 : List Cond := u_ws RJ10 TJ10 0
theorem nmJ10 : ∀ a, a < 0 → ∀ b, b < 0 → a ≠ b → (TJ10 a).2.1 ≠ (TJ10 b).2.1 := by decide +kernel
theorem tyJ10_ok : ∀ k, k < 0 → parseFieldDescriptor (TJ10 k).2.2.1 = some (tyJ10 k) := by decide +kernel
def RL : String := "BargeBallastLaw"
abbrev cL_cell : ByteArray := method_2_code
def yL_cell : MethodName := ⟨RL, "cell", "([II)I"⟩
abbrev cL_low : ByteArray := method_3_code
def yL_low : MethodName := ⟨RL, "low", "(II)I"⟩
abbrev cL_size : ByteArray := method_4_code
def yL_size : MethodName := ⟨RL, "size", "(I)I"⟩
abbrev cL_does : ByteArray := method_5_code
def yL_does : MethodName := ⟨RL, "does", "(LBargeBallast;I)I"⟩
abbrev cL_isBargeSo : ByteArray := method_6_code
def yL_isBargeSo : MethodName := ⟨RL, "isBargeSo", "(LBargeBallast;)Z"⟩
abbrev cL_isWorkSo : ByteArray := method_7_code
def yL_isWorkSo : MethodName := ⟨RL, "isWorkSo", "(LBargeBallast;)Z"⟩
abbrev cL_isUprightSo : ByteArray := method_8_code
def yL_isUprightSo : MethodName := ⟨RL, "isUprightSo", "(LBargeBallast;I)Z"⟩
abbrev cL_isSoundSo : ByteArray := method_9_code
def yL_isSoundSo : MethodName := ⟨RL, "isSoundSo", "(LBargeBallast;II)Z"⟩
abbrev cL_law : ByteArray := code
def yL_law : MethodName := ⟨RL, "law", "([I)Z"⟩
abbrev vwCl : List vw_C := [(RX0, TX0, 3), (RX3, TX3, 6), (RX6, TX6, 1), (RX7, TX7, 3), (RX8, TX8, 5)]
