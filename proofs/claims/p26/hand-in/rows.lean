section
-- ===== PART A: goes FIRST, ahead of the names: the tables' words, and 'selects' of the private methods out of them =====
/-- a private method of a class that the tables say can be made, by its rows of tables_1 -/
def lw_okq (q : MethodName × Nat) : Prop := (q.1.cls ≠ "java/lang/invoke/MethodHandle" ∧ q.1.cls ≠ "java/lang/invoke/VarHandle") ∧ Cond.instantiable q.1.cls q.2 ∈ tables_1 ∧ Cond.privateMethod q.1 ∈ tables_1 ∧ Cond.instanceMethod q.1 ∈ tables_1
theorem lw_p0 : lw_okq (⟨"BargeBallast", "change", "(II)I"⟩, 5) := ⟨⟨by decide +kernel, by decide +kernel⟩, List.mem_of_getElem? (i := 13) (by decide +kernel), List.mem_of_getElem? (i := 198) (by decide +kernel), List.mem_of_getElem? (i := 199) (by decide +kernel)⟩
theorem lw_p1 : lw_okq (⟨"BargeBallast$Uprighting", "takeIfBetter", "(III)V"⟩, 3) := ⟨⟨by decide +kernel, by decide +kernel⟩, List.mem_of_getElem? (i := 399) (by decide +kernel), List.mem_of_getElem? (i := 410) (by decide +kernel), List.mem_of_getElem? (i := 411) (by decide +kernel)⟩
def lw_privs_1 : List (MethodName × Nat) := [(⟨"BargeBallast", "change", "(II)I"⟩, 5), (⟨"BargeBallast$Uprighting", "takeIfBetter", "(III)V"⟩, 3)]
theorem lw_r1 : ∀ q ∈ lw_privs_1, lw_okq q := List.forall_mem_cons.mpr ⟨lw_p0, List.forall_mem_cons.mpr ⟨lw_p1, fun _ h => absurd h List.not_mem_nil⟩⟩
def lw_privs : List (MethodName × Nat) := lw_privs_1
def lw_tbl : List Cond := k2_sels lw_privs ++ tables_1
theorem lw_privs_ok : ∀ q ∈ lw_privs, lw_okq q := lw_r1
-- ===== end of PART A; then your names; then what follows =====
end
section
def RX0 : String := "BargeBallast$History"
def TX0 : u_T := fun k => match k with
  | 0 => ("BargeBallast$History", "rows", "[[I", true)
  | 1 => ("BargeBallast$History", "next", "I", false)
  | _ => ("BargeBallast$History", "length", "I", false)
def tyX0 : Nat → FieldType := fun k => match k with
  | 0 => .array (.array .int)
  | 1 => .int
  | _ => .int
abbrev wsX00 : List Cond := u_ws RX0 TX0 3
theorem nmX0 : ∀ a, a < 3 → ∀ b, b < 3 → a ≠ b → (TX0 a).2.1 ≠ (TX0 b).2.1 := by decide +kernel
theorem tyX0_ok : ∀ k, k < 3 → parseFieldDescriptor (TX0 k).2.2.1 = some (tyX0 k) := by decide +kernel
abbrev cX0_init : ByteArray := prog_2_method_1_code
def yX0_init : MethodName := ⟨RX0, "<init>", "()V"⟩
abbrev cX0_length : ByteArray := prog_2_method_2_code
def yX0_length : MethodName := ⟨RX0, "length", "()I"⟩
abbrev cX0_record : ByteArray := prog_2_method_3_code
def yX0_record : MethodName := ⟨RX0, "record", "(LBargeBallast$State;)V"⟩
abbrev cX0_bringBack : ByteArray := prog_2_method_4_code
def yX0_bringBack : MethodName := ⟨RX0, "bringBack", "(LBargeBallast$State;)V"⟩
def RX1 : String := "BargeBallast$Minutes"
def TX1 : u_T := fun k => match k with
  | _ => ("", "", "", false)
def tyX1 : Nat → FieldType := fun k => match k with
  | _ => .int
abbrev wsX10 : List Cond := u_ws RX1 TX1 0
theorem nmX1 : ∀ a, a < 0 → ∀ b, b < 0 → a ≠ b → (TX1 a).2.1 ≠ (TX1 b).2.1 := by decide +kernel
theorem tyX1_ok : ∀ k, k < 0 → parseFieldDescriptor (TX1 k).2.2.1 = some (tyX1 k) := by decide +kernel
abbrev cX1_run : ByteArray := prog_3_method_2_code
def yX1_run : MethodName := ⟨RX1, "run", "(LBargeBallast$State;II)V"⟩
abbrev cX1_leakOut : ByteArray := prog_3_method_3_code
def yX1_leakOut : MethodName := ⟨RX1, "leakOut", "(LBargeBallast$State;)V"⟩
abbrev cX1_shiftCargo : ByteArray := prog_3_method_4_code
def yX1_shiftCargo : MethodName := ⟨RX1, "shiftCargo", "(LBargeBallast$State;)V"⟩
def RX2 : String := "BargeBallast$OrderRow"
def TX2 : u_T := fun k => match k with
  | _ => ("", "", "", false)
def tyX2 : Nat → FieldType := fun k => match k with
  | _ => .int
abbrev wsX20 : List Cond := u_ws RX2 TX2 0
theorem nmX2 : ∀ a, a < 0 → ∀ b, b < 0 → a ≠ b → (TX2 a).2.1 ≠ (TX2 b).2.1 := by decide +kernel
theorem tyX2_ok : ∀ k, k < 0 → parseFieldDescriptor (TX2 k).2.2.1 = some (tyX2 k) := by decide +kernel
abbrev cX2_append : ByteArray := prog_4_method_2_code
def yX2_append : MethodName := ⟨RX2, "append", "(LBargeBallast$State;II)V"⟩
abbrev cX2_putAt : ByteArray := prog_4_method_3_code
def yX2_putAt : MethodName := ⟨RX2, "putAt", "(LBargeBallast$State;III)V"⟩
abbrev cX2_has : ByteArray := prog_4_method_4_code
def yX2_has : MethodName := ⟨RX2, "has", "(LBargeBallast$State;I)Z"⟩
abbrev cX2_strikeOut : ByteArray := prog_4_method_5_code
def yX2_strikeOut : MethodName := ⟨RX2, "strikeOut", "(LBargeBallast$State;I)I"⟩
abbrev cX2_workFirst : ByteArray := prog_4_method_6_code
def yX2_workFirst : MethodName := ⟨RX2, "workFirst", "(LBargeBallast$State;)V"⟩
abbrev cX2_takeFirstOff : ByteArray := prog_4_method_7_code
def yX2_takeFirstOff : MethodName := ⟨RX2, "takeFirstOff", "(LBargeBallast$State;)V"⟩
abbrev cX2_reasonToRefuse : ByteArray := prog_4_method_8_code
def yX2_reasonToRefuse : MethodName := ⟨RX2, "reasonToRefuse", "(LBargeBallast$State;II)I"⟩
def RX3 : String := "BargeBallast$OrderText"
def TX3 : u_T := fun k => match k with
  | 0 => ("BargeBallast$OrderText", "signs", "[C", true)
  | 1 => ("BargeBallast$OrderText", "length", "I", false)
  | 2 => ("BargeBallast$OrderText", "kinds", "[I", true)
  | 3 => ("BargeBallast$OrderText", "bys", "[I", true)
  | 4 => ("BargeBallast$OrderText", "orders", "I", false)
  | _ => ("BargeBallast$OrderText", "expected", "I", false)
def tyX3 : Nat → FieldType := fun k => match k with
  | 0 => .array .char
  | 1 => .int
  | 2 => .array .int
  | 3 => .array .int
  | 4 => .int
  | _ => .int
abbrev wsX30 : List Cond := u_ws RX3 TX3 6
theorem nmX3 : ∀ a, a < 6 → ∀ b, b < 6 → a ≠ b → (TX3 a).2.1 ≠ (TX3 b).2.1 := by decide +kernel
theorem tyX3_ok : ∀ k, k < 6 → parseFieldDescriptor (TX3 k).2.2.1 = some (tyX3 k) := by decide +kernel
abbrev cX3_init : ByteArray := prog_5_method_1_code
def yX3_init : MethodName := ⟨RX3, "<init>", "()V"⟩
abbrev cX3_length : ByteArray := prog_5_method_2_code
def yX3_length : MethodName := ⟨RX3, "length", "()I"⟩
def RX4 : String := "BargeBallast$Pump"
def TX4 : u_T := fun k => match k with
  | _ => ("", "", "", false)
def tyX4 : Nat → FieldType := fun k => match k with
  | _ => .int
abbrev wsX40 : List Cond := u_ws RX4 TX4 0
theorem nmX4 : ∀ a, a < 0 → ∀ b, b < 0 → a ≠ b → (TX4 a).2.1 ≠ (TX4 b).2.1 := by decide +kernel
theorem tyX4_ok : ∀ k, k < 0 → parseFieldDescriptor (TX4 k).2.2.1 = some (tyX4 k) := by decide +kernel
abbrev cX4_tankToFill : ByteArray := prog_6_method_2_code
def yX4_tankToFill : MethodName := ⟨RX4, "tankToFill", "(LBargeBallast$State;I)I"⟩
abbrev cX4_tankToEmpty : ByteArray := prog_6_method_3_code
def yX4_tankToEmpty : MethodName := ⟨RX4, "tankToEmpty", "(LBargeBallast$State;I)I"⟩
abbrev cX4_tankToLower : ByteArray := prog_6_method_4_code
def yX4_tankToLower : MethodName := ⟨RX4, "tankToLower", "(LBargeBallast$State;I)I"⟩
abbrev cX4_moveUnit : ByteArray := prog_6_method_5_code
def yX4_moveUnit : MethodName := ⟨RX4, "moveUnit", "(LBargeBallast$State;II)Z"⟩
abbrev cX4_fillUnit : ByteArray := prog_6_method_6_code
def yX4_fillUnit : MethodName := ⟨RX4, "fillUnit", "(LBargeBallast$State;I)Z"⟩
abbrev cX4_emptyUnit : ByteArray := prog_6_method_7_code
def yX4_emptyUnit : MethodName := ⟨RX4, "emptyUnit", "(LBargeBallast$State;I)Z"⟩
abbrev cX4_levelUnit : ByteArray := prog_6_method_8_code
def yX4_levelUnit : MethodName := ⟨RX4, "levelUnit", "(LBargeBallast$State;II)Z"⟩
abbrev cX4_moveBy : ByteArray := prog_6_method_9_code
def yX4_moveBy : MethodName := ⟨RX4, "moveBy", "(LBargeBallast$State;II)V"⟩
def RX5 : String := "BargeBallast$Soundings"
def TX5 : u_T := fun k => match k with
  | _ => ("", "", "", false)
def tyX5 : Nat → FieldType := fun k => match k with
  | _ => .int
abbrev wsX50 : List Cond := u_ws RX5 TX5 0
theorem nmX5 : ∀ a, a < 0 → ∀ b, b < 0 → a ≠ b → (TX5 a).2.1 ≠ (TX5 b).2.1 := by decide +kernel
theorem tyX5_ok : ∀ k, k < 0 → parseFieldDescriptor (TX5 k).2.2.1 = some (tyX5 k) := by decide +kernel
abbrev cX5_place : ByteArray := prog_7_method_2_code
def yX5_place : MethodName := ⟨RX5, "place", "(II)I"⟩
abbrev cX5_put : ByteArray := prog_7_method_3_code
def yX5_put : MethodName := ⟨RX5, "put", "(LBargeBallast$State;I)V"⟩
abbrev cX5_putAt : ByteArray := prog_7_method_4_code
def yX5_putAt : MethodName := ⟨RX5, "putAt", "(LBargeBallast$State;IIII)V"⟩
abbrev cX5_isLossTold : ByteArray := prog_7_method_5_code
def yX5_isLossTold : MethodName := ⟨RX5, "isLossTold", "(LBargeBallast$State;I)Z"⟩
abbrev cX5_loss : ByteArray := prog_7_method_6_code
def yX5_loss : MethodName := ⟨RX5, "loss", "(LBargeBallast$State;I)I"⟩
def RX6 : String := "BargeBallast$State"
def TX6 : u_T := fun k => match k with
  | _ => ("BargeBallast$State", "cells", "[I", true)
def tyX6 : Nat → FieldType := fun k => match k with
  | _ => .array .int
abbrev wsX60 : List Cond := u_ws RX6 TX6 1
theorem nmX6 : ∀ a, a < 1 → ∀ b, b < 1 → a ≠ b → (TX6 a).2.1 ≠ (TX6 b).2.1 := by decide +kernel
theorem tyX6_ok : ∀ k, k < 1 → parseFieldDescriptor (TX6 k).2.2.1 = some (tyX6 k) := by decide +kernel
abbrev cX6_init : ByteArray := prog_8_method_1_code
def yX6_init : MethodName := ⟨RX6, "<init>", "()V"⟩
abbrev cX6_at : ByteArray := prog_8_method_2_code
def yX6_at : MethodName := ⟨RX6, "at", "(I)I"⟩
abbrev cX6_put : ByteArray := prog_8_method_3_code
def yX6_put : MethodName := ⟨RX6, "put", "(II)V"⟩
abbrev cX6_add : ByteArray := prog_8_method_4_code
def yX6_add : MethodName := ⟨RX6, "add", "(II)V"⟩
abbrev cX6_copyTo : ByteArray := prog_8_method_5_code
def yX6_copyTo : MethodName := ⟨RX6, "copyTo", "([I)V"⟩
abbrev cX6_copyFrom : ByteArray := prog_8_method_6_code
def yX6_copyFrom : MethodName := ⟨RX6, "copyFrom", "([I)V"⟩
abbrev cX6_isIn : ByteArray := prog_8_method_7_code
def yX6_isIn : MethodName := ⟨RX6, "isIn", "(II)Z"⟩
abbrev cX6_waterIn : ByteArray := prog_8_method_8_code
def yX6_waterIn : MethodName := ⟨RX6, "waterIn", "(I)I"⟩
abbrev cX6_lostByLeaks : ByteArray := prog_8_method_9_code
def yX6_lostByLeaks : MethodName := ⟨RX6, "lostByLeaks", "()I"⟩
abbrev cX6_weight : ByteArray := prog_8_method_10_code
def yX6_weight : MethodName := ⟨RX6, "weight", "()I"⟩
abbrev cX6_trimMomentAbout : ByteArray := prog_8_method_11_code
def yX6_trimMomentAbout : MethodName := ⟨RX6, "trimMomentAbout", "(I)I"⟩
abbrev cX6_trim : ByteArray := prog_8_method_12_code
def yX6_trim : MethodName := ⟨RX6, "trim", "()I"⟩
abbrev cX6_listMoment : ByteArray := prog_8_method_13_code
def yX6_listMoment : MethodName := ⟨RX6, "listMoment", "()I"⟩
abbrev cX6_list : ByteArray := prog_8_method_14_code
def yX6_list : MethodName := ⟨RX6, "list", "()I"⟩
abbrev cX6_listOf : ByteArray := prog_8_method_15_code
def yX6_listOf : MethodName := ⟨RX6, "listOf", "(II)I"⟩
abbrev cX6_draughtOf : ByteArray := prog_8_method_16_code
def yX6_draughtOf : MethodName := ⟨RX6, "draughtOf", "(I)I"⟩
abbrev cX6_openTanks : ByteArray := prog_8_method_17_code
def yX6_openTanks : MethodName := ⟨RX6, "openTanks", "()I"⟩
abbrev cX6_groupsWith : ByteArray := prog_8_method_18_code
def yX6_groupsWith : MethodName := ⟨RX6, "groupsWith", "(I)I"⟩
abbrev cX6_emptiest : ByteArray := prog_8_method_19_code
def yX6_emptiest : MethodName := ⟨RX6, "emptiest", "(I)I"⟩
abbrev cX6_fullest : ByteArray := prog_8_method_20_code
def yX6_fullest : MethodName := ⟨RX6, "fullest", "(I)I"⟩
def RX7 : String := "BargeBallast$Uprighting"
def TX7 : u_T := fun k => match k with
  | 0 => ("BargeBallast$Uprighting", "tank", "I", false)
  | 1 => ("BargeBallast$Uprighting", "change", "I", false)
  | _ => ("BargeBallast$Uprighting", "list", "I", false)
def tyX7 : Nat → FieldType := fun k => match k with
  | 0 => .int
  | 1 => .int
  | _ => .int
abbrev wsX70 : List Cond := u_ws RX7 TX7 3
theorem nmX7 : ∀ a, a < 3 → ∀ b, b < 3 → a ≠ b → (TX7 a).2.1 ≠ (TX7 b).2.1 := by decide +kernel
theorem tyX7_ok : ∀ k, k < 3 → parseFieldDescriptor (TX7 k).2.2.1 = some (tyX7 k) := by decide +kernel
abbrev cX7_init : ByteArray := prog_9_method_1_code
def yX7_init : MethodName := ⟨RX7, "<init>", "(LBargeBallast$State;I)V"⟩
abbrev cX7_takeIfBetter : ByteArray := prog_9_method_2_code
def yX7_takeIfBetter : MethodName := ⟨RX7, "takeIfBetter", "(III)V"⟩
def RX8 : String := "BargeBallast"
def TX8 : u_T := fun k => match k with
  | 0 => ("BargeBallast", "now", "LBargeBallast$State;", true)
  | 1 => ("BargeBallast", "history", "LBargeBallast$History;", true)
  | 2 => ("BargeBallast", "snapshot", "[I", true)
  | 3 => ("BargeBallast", "hasSnapshot", "Z", false)
  | _ => ("BargeBallast", "text", "LBargeBallast$OrderText;", true)
def tyX8 : Nat → FieldType := fun k => match k with
  | 0 => .object "BargeBallast$State"
  | 1 => .object "BargeBallast$History"
  | 2 => .array .int
  | 3 => .boolean
  | _ => .object "BargeBallast$OrderText"
abbrev wsX80 : List Cond := u_ws RX8 TX8 5
theorem nmX8 : ∀ a, a < 5 → ∀ b, b < 5 → a ≠ b → (TX8 a).2.1 ≠ (TX8 b).2.1 := by decide +kernel
theorem tyX8_ok : ∀ k, k < 5 → parseFieldDescriptor (TX8 k).2.2.1 = some (tyX8 k) := by decide +kernel
abbrev cX8_init : ByteArray := prog_1_method_1_code
def yX8_init : MethodName := ⟨RX8, "<init>", "()V"⟩
abbrev cX8_load : ByteArray := prog_1_method_2_code
def yX8_load : MethodName := ⟨RX8, "load", "(III)I"⟩
abbrev cX8_leak : ByteArray := prog_1_method_3_code
def yX8_leak : MethodName := ⟨RX8, "leak", "(II)I"⟩
abbrev cX8_setGroup : ByteArray := prog_1_method_4_code
def yX8_setGroup : MethodName := ⟨RX8, "setGroup", "(II)I"⟩
abbrev cX8_set : ByteArray := prog_1_method_5_code
def yX8_set : MethodName := ⟨RX8, "set", "(II)I"⟩
abbrev cX8_order : ByteArray := prog_1_method_6_code
def yX8_order : MethodName := ⟨RX8, "order", "(II)I"⟩
abbrev cX8_strike : ByteArray := prog_1_method_8_code
def yX8_strike : MethodName := ⟨RX8, "strike", "(I)I"⟩
abbrev cX8_work : ByteArray := prog_1_method_9_code
def yX8_work : MethodName := ⟨RX8, "work", "(I)I"⟩
abbrev cX8_pass : ByteArray := prog_1_method_10_code
def yX8_pass : MethodName := ⟨RX8, "pass", "(I)I"⟩
abbrev cX8_sound : ByteArray := prog_1_method_11_code
def yX8_sound : MethodName := ⟨RX8, "sound", "(I)I"⟩
abbrev cX8_undo : ByteArray := prog_1_method_14_code
def yX8_undo : MethodName := ⟨RX8, "undo", "()I"⟩
abbrev cX8_tank : ByteArray := prog_1_method_17_code
def yX8_tank : MethodName := ⟨RX8, "tank", "(II)I"⟩
abbrev cX8_sounding : ByteArray := prog_1_method_18_code
def yX8_sounding : MethodName := ⟨RX8, "sounding", "(IIZ)I"⟩
abbrev cX8_hold : ByteArray := prog_1_method_19_code
def yX8_hold : MethodName := ⟨RX8, "hold", "(II)I"⟩
abbrev cX8_group : ByteArray := prog_1_method_20_code
def yX8_group : MethodName := ⟨RX8, "group", "(II)I"⟩
abbrev cX8_waiting : ByteArray := prog_1_method_21_code
def yX8_waiting : MethodName := ⟨RX8, "waiting", "(II)I"⟩
abbrev cX8_trimMoment : ByteArray := prog_1_method_22_code
def yX8_trimMoment : MethodName := ⟨RX8, "trimMoment", "(I)I"⟩
abbrev cX8_upright : ByteArray := prog_1_method_23_code
def yX8_upright : MethodName := ⟨RX8, "upright", "(II)I"⟩
abbrev cX8_count : ByteArray := prog_1_method_24_code
def yX8_count : MethodName := ⟨RX8, "count", "(I)I"⟩
abbrev cX8_isWithin : ByteArray := prog_1_method_25_code
def yX8_isWithin : MethodName := ⟨RX8, "isWithin", "(III)Z"⟩
abbrev cX8_isRightBy : ByteArray := prog_1_method_26_code
def yX8_isRightBy : MethodName := ⟨RX8, "isRightBy", "(II)Z"⟩
abbrev cX8_isValve : ByteArray := prog_1_method_27_code
def yX8_isValve : MethodName := ⟨RX8, "isValve", "(I)Z"⟩
abbrev cX8_change : ByteArray := prog_1_method_28_code
def yX8_change : MethodName := ⟨RX8, "change", "(II)I"⟩
def RX9 : String := "BargeBallastModel"
def TX9 : u_T := fun k => match k with
  | _ => ("", "", "", false)
def tyX9 : Nat → FieldType := fun k => match k with
  | _ => .int
abbrev wsX90 : List Cond := u_ws RX9 TX9 0
theorem nmX9 : ∀ a, a < 0 → ∀ b, b < 0 → a ≠ b → (TX9 a).2.1 ≠ (TX9 b).2.1 := by decide +kernel
theorem tyX9_ok : ∀ k, k < 0 → parseFieldDescriptor (TX9 k).2.2.1 = some (tyX9 k) := by decide +kernel
def RJ9 : String := "java/lang/Math"
def TJ9 : u_T := fun k => match k with
  | _ => ("", "", "", false)
def tyJ9 : Nat → FieldType := fun k => match k with
  | _ => .int
abbrev wsJ90 : List Cond := u_ws RJ9 TJ9 0
theorem nmJ9 : ∀ a, a < 0 → ∀ b, b < 0 → a ≠ b → (TJ9 a).2.1 ≠ (TJ9 b).2.1 := by decide +kernel
theorem tyJ9_ok : ∀ k, k < 0 → parseFieldDescriptor (TJ9 k).2.2.1 = some (tyJ9 k) := by decide +kernel
abbrev cJ9_abs_0f7a4 : ByteArray := prog_12_method_59_code
def yJ9_abs_0f7a4 : MethodName := ⟨RJ9, "abs", "(I)I"⟩
abbrev cJ9_min_7cf53 : ByteArray := prog_12_method_69_code
def yJ9_min_7cf53 : MethodName := ⟨RJ9, "min", "(II)I"⟩
def RJ10 : String := "java/lang/System"
def TJ10 : u_T := fun k => match k with
  | _ => ("", "", "", false)
def tyJ10 : Nat → FieldType := fun k => match k with
  | _ => .int
abbrev wsJ100 : List Cond := u_ws RJ10 TJ10 0
theorem nmJ10 : ∀ a, a < 0 → ∀ b, b < 0 → a ≠ b → (TJ10 a).2.1 ≠ (TJ10 b).2.1 := by decide +kernel
theorem tyJ10_ok : ∀ k, k < 0 → parseFieldDescriptor (TJ10 k).2.2.1 = some (tyJ10 k) := by decide +kernel
def RL : String := "BargeBallastLaw"
abbrev cL_cell : ByteArray := method_2_code
def yL_cell : MethodName := ⟨RL, "cell", "([II)I"⟩
abbrev cL_low : ByteArray := method_3_code
def yL_low : MethodName := ⟨RL, "low", "(II)I"⟩
abbrev cL_size : ByteArray := method_4_code
def yL_size : MethodName := ⟨RL, "size", "(I)I"⟩
abbrev cL_does : ByteArray := method_5_code
def yL_does : MethodName := ⟨RL, "does", "(LBargeBallast;I)I"⟩
abbrev cL_isBargeSo : ByteArray := method_6_code
def yL_isBargeSo : MethodName := ⟨RL, "isBargeSo", "(LBargeBallast;)Z"⟩
abbrev cL_isWorkSo : ByteArray := method_7_code
def yL_isWorkSo : MethodName := ⟨RL, "isWorkSo", "(LBargeBallast;)Z"⟩
abbrev cL_isUprightSo : ByteArray := method_8_code
def yL_isUprightSo : MethodName := ⟨RL, "isUprightSo", "(LBargeBallast;I)Z"⟩
abbrev cL_isSoundSo : ByteArray := method_9_code
def yL_isSoundSo : MethodName := ⟨RL, "isSoundSo", "(LBargeBallast;II)Z"⟩
abbrev cL_law : ByteArray := code
def yL_law : MethodName := ⟨RL, "law", "([I)Z"⟩
abbrev vwCl : List vw_C := [(RX0, TX0, 3), (RX3, TX3, 6), (RX6, TX6, 1), (RX7, TX7, 3), (RX8, TX8, 5)]
end
section
/-! ===== the small machine: a state is (pc, locals, stack, heap, cells made, slots made); objects are named by their place in the heap, what stands outside by 1000 + k ===== -/
abbrev Ins : Type := Instr × Nat × Nat × Int32 × Nat × Nat
def nopI : Ins := (.nop, 0, 0, 0, 0, 0)
/-- a method: its name, bytes, locals, what it returns, (frames, locals, cells, slots) that it needs, its length, its instructions -/
abbrev MI : Type := MethodName × ByteArray × Nat × Option FieldType × (Nat × Nat × Nat × Nat) × Nat × (Nat → Ins)
def my (M : MI) : MethodName := M.1
def mb (M : MI) : ByteArray := M.2.1
def mL (M : MI) : Nat := M.2.2.1
def mr (M : MI) : Option FieldType := M.2.2.2.1
def mF (M : MI) : Nat := M.2.2.2.2.1.1
def mW (M : MI) : Nat := M.2.2.2.2.1.2.1
def mC (M : MI) : Nat := M.2.2.2.2.1.2.2.1
def mS (M : MI) : Nat := M.2.2.2.2.1.2.2.2
def mN (M : MI) : Nat := M.2.2.2.2.2.1
def mk (M : MI) : Nat → Ins := M.2.2.2.2.2.2
def mo (M : MI) : String := (my M).cls
abbrev AO : Type := (FieldType × Nat × (Nat → Int32)) ⊕ (Nat × (Nat → Nat)) ⊕ (Nat × List Value)
abbrev AH : Type := List AO
abbrev AL : Type := List (Nat × Value)
abbrev AS : Type := Nat × AL × List Value × AH × Nat × Nat
abbrev AX : Type := Nat → Option (Nat × (Nat → Int32))
def nth {α : Type} : List α → Nat → Option α
  | [], _ => none
  | x :: _, 0 => some x
  | _ :: t, n + 1 => nth t n
def setN {α : Type} : List α → Nat → α → List α
  | [], _, _ => []
  | _ :: t, 0, v => v :: t
  | x :: t, n + 1, v => x :: setN t n v
theorem nth_eq {α : Type} : ∀ (l : List α) (n : Nat), nth l n = l[n]?
  | [], n => by simp [nth]
  | x :: t, 0 => by simp [nth]
  | x :: t, n + 1 => by simp [nth, nth_eq t n]
theorem setN_eq {α : Type} : ∀ (l : List α) (n : Nat) (v : α), setN l n v = l.set n v
  | [], n, v => by simp [setN]
  | x :: t, 0, v => by simp [setN]
  | x :: t, n + 1, v => by simp [setN, setN_eq t n v]
def getL : AL → Nat → Option Value
  | [], _ => none
  | (j, w) :: t, i => cond (Nat.beq j i) (some w) (getL t i)
def setL : AL → Nat → Value → AL
  | [], i, v => [(i, v)]
  | (j, w) :: t, i, v => cond (Nat.beq j i) ((j, v) :: t) ((j, w) :: setL t i v)
/-- the tables' words that stay true behind a call; those of a nest, which are carried beside them -/
def gw : List Cond := lw_tbl.filter goodWord
def nw : List Cond := [.fieldLinkNest "BargeBallast$State" 15 "BargeBallast" "FIRST_TANKS" "[I" "BargeBallast", .fieldLinkNest "BargeBallast$State" 18 "BargeBallast" "FIRST_SETTING" "[I" "BargeBallast", .fieldLinkNest "BargeBallast$State" 45 "BargeBallast" "SIDE_ARM" "[I" "BargeBallast", .fieldLinkNest "BargeBallast$State" 35 "BargeBallast" "SECTION_ARM" "[I" "BargeBallast", .fieldLinkNest "BargeBallast$State" 38 "BargeBallast" "HOLD_ARM" "[I" "BargeBallast", .fieldLinkNest "BargeBallast$Uprighting" 32 "BargeBallast" "SIDE_ARM" "[I" "BargeBallast", .methodLinkNest "BargeBallast" 18 yX0_init "BargeBallast", .methodLinkNest "BargeBallast" 29 yX3_init "BargeBallast", .methodLinkNest "BargeBallast$OrderRow" 36 yX8_isValve "BargeBallast"]
def okw (w : Cond) : Bool := decide (w ∈ lw_tbl) && goodWord w
theorem okw_in {w : Cond} (h : okw w = true) : w ∈ gw := by
  unfold okw at h
  simp only [Bool.and_eq_true, decide_eq_true_eq] at h
  exact List.mem_filter.mpr ⟨h.1, h.2⟩
theorem okw_all {ws : List Cond} (h : ws.all okw = true) : ∀ w ∈ ws, w ∈ gw := fun w hw => okw_in (List.all_eq_true.mp h w hw)
theorem gw_good : GoodIn gw gw := fun w h => ⟨h, good_of_word (List.mem_filter.mp h).2⟩
/-- the names of the static arrays that stand outside -/
def stN (k : Nat) : String := match k with
  | 0 => "SECTION_ARM"
  | 1 => "SIDE_ARM"
  | 2 => "HOLD_ARM"
  | 3 => "FIRST_TANKS"
  | 4 => "LEAST_SETTING"
  | 5 => "FIRST_SETTING"
  | _ => "MOST_SETTING"
def fty (ci : Nat) : Nat → FieldType := match ci with
  | 0 => tyX0
  | 1 => tyX3
  | 2 => tyX6
  | 3 => tyX7
  | _ => tyX8
def okF (own : String) (idx ci k : Nat) : Bool := match vwCl[ci]? with
  | some (C, T, N) => decide (k < N) && decide ((T k).1 = C) && okw (Cond.fieldLink own idx C (T k).2.1 (T k).2.2.1)
  | none => false
def okS (own : String) (idx k : Nat) : Bool := decide (k < 7) && (okw (Cond.fieldLink own idx "BargeBallast" (stN k) "[I") || decide (Cond.fieldLinkNest own idx "BargeBallast" (stN k) "[I" "BargeBallast" ∈ nw))
def okN (own : String) (idx ci : Nat) : Bool := match vwCl[ci]? with
  | some (C, _, N) => okw (Cond.classLink own idx C) && okw (Cond.instantiable C N) && okw (Cond.initialized C)
  | none => false
/-- how long the instructions are -/
def ilen (i : Instr) : Nat := match i with
  | .iconst _ => 1
  | .iload_n _ => 1
  | .aload_n _ => 1
  | .istore_n _ => 1
  | .astore_n _ => 1
  | .iadd => 1
  | .isub => 1
  | .imul => 1
  | .iand => 1
  | .ior => 1
  | .ishl => 1
  | .ishr => 1
  | .idiv => 1
  | .irem => 1
  | .ineg => 1
  | .i2c => 1
  | .dup => 1
  | .dup2 => 1
  | .arraylength => 1
  | .iaload => 1
  | .caload => 1
  | .aaload => 1
  | .iastore => 1
  | .castore => 1
  | .ireturn => 1
  | .return_ => 1
  | .bipush _ => 2
  | .iload _ => 2
  | .aload _ => 2
  | .istore _ => 2
  | .newarray _ => 2
  | .sipush _ => 3
  | .ldc _ => 2
  | .iinc _ _ => 3
  | .goto _ => 3
  | .if_icmp _ _ => 3
  | .ifCond _ _ => 3
  | .ifnull _ => 3
  | .ifnonnull _ => 3
  | .getfield _ => 3
  | .putfield _ => 3
  | .getstatic _ => 3
  | .new _ => 3
  | .invokevirtual _ => 3
  | .invokestatic _ => 3
  | .invokespecial _ => 3
  | _ => 0
/-- what an instruction's row of the table must say -/
def okI (own : String) (pc : Nat) (q : Ins) : Bool := decide (q.2.2.1 = pc + q.2.1) && ((decide (ilen q.1 = q.2.1) || decide (ilen q.1 = 0)) && match q.1 with
  | .iconst n => decide (q.2.2.2.1 = Int32.ofInt n)
  | .bipush n => decide (q.2.2.2.1 = (Int8.ofInt n).toInt32)
  | .sipush n => decide (q.2.2.2.1 = (Int16.ofInt n).toInt32)
  | .iinc k n => decide (q.2.2.2.1 = Int32.ofInt n) && decide (k = q.2.2.2.2.1)
  | .iload k => decide (k = q.2.2.2.2.1)
  | .aload k => decide (k = q.2.2.2.2.1)
  | .istore k => decide (k = q.2.2.2.2.1)
  | .iload_n k => decide (k.val = q.2.2.2.2.1)
  | .aload_n k => decide (k.val = q.2.2.2.2.1)
  | .istore_n k => decide (k.val = q.2.2.2.2.1)
  | .astore_n k => decide (k.val = q.2.2.2.2.1)
  | .goto off => decide ((pc : Int) + off = (q.2.2.2.2.1 : Int))
  | .if_icmp _ off => decide ((pc : Int) + off = (q.2.2.2.2.1 : Int))
  | .ifCond _ off => decide ((pc : Int) + off = (q.2.2.2.2.1 : Int))
  | .ifnull off => decide ((pc : Int) + off = (q.2.2.2.2.1 : Int))
  | .ifnonnull off => decide ((pc : Int) + off = (q.2.2.2.2.1 : Int))
  | .getfield idx => okF own idx q.2.2.2.2.1 q.2.2.2.2.2
  | .putfield idx => okF own idx q.2.2.2.2.1 q.2.2.2.2.2
  | .getstatic idx => okS own idx q.2.2.2.2.1
  | .new idx => okN own idx q.2.2.2.2.1
  | _ => true)
def MOk (M : MI) : Prop := (∀ pc, pc < mN M → mk M pc = nopI ∨ (decode (mb M) pc = .ok ((mk M pc).1, (mk M pc).2.1) ∧ okI (mo M) pc (mk M pc) = true)) ∧ ∀ pc, mN M ≤ pc → mk M pc = nopI
def inB (i : Int32) (n : Nat) : Bool := !(decide (i < 0)) && Nat.ble (i.toNatClampNeg + 1) n
theorem inB_vp {i : Int32} {n : Nat} (h : inB i n = true) : vp_in i n := by
  unfold inB at h
  simp only [Bool.and_eq_true, Bool.not_eq_true', decide_eq_false_iff_not] at h
  have := Nat.le_of_ble_eq_true h.2
  intro q
  rcases q with q | q
  · exact h.1 q
  · omega
def cmpB (c : Jvm.ClassFile.Cond) (x y : Int32) : Bool := match c with
  | .eq => decide (x = y)
  | .ne => !decide (x = y)
  | .lt => decide (x < y)
  | .ge => decide (y ≤ x)
  | .gt => decide (y < x)
  | .le => decide (x ≤ y)
/-- what may be laid into a field of this type -/
def putOk (ty : FieldType) (v : Value) : Bool := match ty, v with
  | .int, .int _ => true
  | .boolean, .int x => decide (x = 0) || decide (x = 1)
  | .object _, .ref _ => true
  | .array _, .ref _ => true
  | _, _ => false
def finOk (M : MI) (ci k : Nat) : Bool := match nth vwCl ci with
  | some (_, T, _) => !(T k).2.2.2 || (decide ((my M).name = "<init>") && decide ((T k).1 = mo M))
  | none => false
/-- one step of an instruction that calls nothing and makes nothing -/
def step1 (M : MI) (X : AX) (σ : AS) : Option AS := match σ with
  | (pc, ls, st, h, cc, cs) => match mk M pc with
    | (i, _, nx, v, a, b) => match i with
      | .iconst _ => some (nx, ls, .int v :: st, h, cc, cs)
      | .bipush _ => some (nx, ls, .int v :: st, h, cc, cs)
      | .sipush _ => some (nx, ls, .int v :: st, h, cc, cs)
      | .iload _ => match getL ls a with
        | some (.int x) => some (nx, ls, .int x :: st, h, cc, cs)
        | _ => none
      | .iload_n _ => match getL ls a with
        | some (.int x) => some (nx, ls, .int x :: st, h, cc, cs)
        | _ => none
      | .aload _ => match getL ls a with
        | some (.ref x) => some (nx, ls, .ref x :: st, h, cc, cs)
        | _ => none
      | .aload_n _ => match getL ls a with
        | some (.ref x) => some (nx, ls, .ref x :: st, h, cc, cs)
        | _ => none
      | .istore _ => match st with
        | .int x :: r => cond (Nat.ble (a + 1) (mL M)) (some (nx, setL ls a (.int x), r, h, cc, cs)) none
        | _ => none
      | .istore_n _ => match st with
        | .int x :: r => cond (Nat.ble (a + 1) (mL M)) (some (nx, setL ls a (.int x), r, h, cc, cs)) none
        | _ => none
      | .astore_n _ => match st with
        | .ref x :: r => cond (Nat.ble (a + 1) (mL M)) (some (nx, setL ls a (.ref x), r, h, cc, cs)) none
        | _ => none
      | .iinc _ _ => match getL ls a with
        | some (.int x) => cond (Nat.ble (a + 1) (mL M)) (some (nx, setL ls a (.int (x + v)), st, h, cc, cs)) none
        | _ => none
      | .iadd => match st with
        | .int y :: .int x :: r => some (nx, ls, .int (x + y) :: r, h, cc, cs)
        | _ => none
      | .isub => match st with
        | .int y :: .int x :: r => some (nx, ls, .int (x - y) :: r, h, cc, cs)
        | _ => none
      | .imul => match st with
        | .int y :: .int x :: r => some (nx, ls, .int (x * y) :: r, h, cc, cs)
        | _ => none
      | .iand => match st with
        | .int y :: .int x :: r => some (nx, ls, .int (x &&& y) :: r, h, cc, cs)
        | _ => none
      | .ior => match st with
        | .int y :: .int x :: r => some (nx, ls, .int (x ||| y) :: r, h, cc, cs)
        | _ => none
      | .ishl => match st with
        | .int y :: .int x :: r => some (nx, ls, .int (x <<< (y &&& 31)) :: r, h, cc, cs)
        | _ => none
      | .ishr => match st with
        | .int y :: .int x :: r => some (nx, ls, .int (x >>> (y &&& 31)) :: r, h, cc, cs)
        | _ => none
      | .idiv => match st with
        | .int y :: .int x :: r => cond (decide (y = 0)) none (some (nx, ls, .int (x / y) :: r, h, cc, cs))
        | _ => none
      | .irem => match st with
        | .int y :: .int x :: r => cond (decide (y = 0)) none (some (nx, ls, .int (x - x / y * y) :: r, h, cc, cs))
        | _ => none
      | .ineg => match st with
        | .int x :: r => some (nx, ls, .int (-x) :: r, h, cc, cs)
        | _ => none
      | .i2c => match st with
        | .int x :: r => some (nx, ls, .int ((x.toUInt32 % 65536).toInt32) :: r, h, cc, cs)
        | _ => none
      | .dup => match st with
        | .int x :: r => some (nx, ls, .int x :: .int x :: r, h, cc, cs)
        | .ref x :: r => some (nx, ls, .ref x :: .ref x :: r, h, cc, cs)
        | _ => none
      | .dup2 => match st with
        | .int x :: .ref y :: r => some (nx, ls, .int x :: .ref y :: .int x :: .ref y :: r, h, cc, cs)
        | _ => none
      | .goto _ => some (a, ls, st, h, cc, cs)
      | .if_icmp c _ => match st with
        | .int y :: .int x :: r => cond (cmpB c x y) (some (a, ls, r, h, cc, cs)) (some (nx, ls, r, h, cc, cs))
        | _ => none
      | .ifCond c _ => match st with
        | .int x :: r => cond (cmpB c x 0) (some (a, ls, r, h, cc, cs)) (some (nx, ls, r, h, cc, cs))
        | _ => none
      | .ifnull _ => match st with
        | .ref _ :: r => some (nx, ls, r, h, cc, cs)
        | _ => none
      | .ifnonnull _ => match st with
        | .ref _ :: r => some (a, ls, r, h, cc, cs)
        | _ => none
      | .getfield _ => match st with
        | .ref o :: r => match nth h o with
          | some (.inr (.inr (ci, fs))) => cond (Nat.beq ci a) (match nth fs b with
            | some w => some (nx, ls, w :: r, h, cc, cs)
            | none => none) none
          | _ => none
        | _ => none
      | .putfield _ => match st with
        | w :: .ref o :: r => match nth h o with
          | some (.inr (.inr (ci, fs))) => cond (Nat.beq ci a && (putOk (fty a b) w && (finOk M a b && Nat.ble (b + 1) fs.length))) (some (nx, ls, r, setN h o (.inr (.inr (ci, setN fs b w))), cc, cs)) none
          | _ => none
        | _ => none
      | .getstatic _ => some (nx, ls, .ref (1000 + a) :: st, h, cc, cs)
      | .arraylength => match st with
        | .ref o :: r => cond (Nat.ble 1000 o) (match X (o - 1000) with
          | some (n, _) => some (nx, ls, .int (Int32.ofNat n) :: r, h, cc, cs)
          | none => none) (match nth h o with
          | some (.inl (_, n, _)) => some (nx, ls, .int (Int32.ofNat n) :: r, h, cc, cs)
          | _ => none)
        | _ => none
      | .iaload => match st with
        | .int j :: .ref o :: r => cond (Nat.ble 1000 o) (match X (o - 1000) with
          | some (n, f) => cond (inB j n) (some (nx, ls, .int (f j.toNatClampNeg) :: r, h, cc, cs)) none
          | none => none) (match nth h o with
          | some (.inl (.int, n, f)) => cond (inB j n) (some (nx, ls, .int (f j.toNatClampNeg) :: r, h, cc, cs)) none
          | _ => none)
        | _ => none
      | .caload => match st with
        | .int j :: .ref o :: r => match nth h o with
          | some (.inl (.char, n, f)) => cond (inB j n) (some (nx, ls, .int (f j.toNatClampNeg) :: r, h, cc, cs)) none
          | _ => none
        | _ => none
      | .aaload => match st with
        | .int j :: .ref o :: r => match nth h o with
          | some (.inr (.inl (n, g))) => cond (inB j n && Nat.ble (g j.toNatClampNeg + 1) 1000) (some (nx, ls, .ref (g j.toNatClampNeg) :: r, h, cc, cs)) none
          | _ => none
        | _ => none
      | .iastore => match st with
        | .int x :: .int j :: .ref o :: r => match nth h o with
          | some (.inl (.int, n, f)) => cond (inB j n) (some (nx, ls, r, setN h o (.inl (.int, n, upd f j.toNatClampNeg x)), cc, cs)) none
          | _ => none
        | _ => none
      | .castore => match st with
        | .int x :: .int j :: .ref o :: r => match nth h o with
          | some (.inl (.char, n, f)) => cond (inB j n) (some (nx, ls, r, setN h o (.inl (.char, n, upd f j.toNatClampNeg (vp_nar .char x))), cc, cs)) none
          | _ => none
        | _ => none
      | _ => none
def stepN (M : MI) (X : AX) : Nat → AS → Option AS
  | 0, σ => some σ
  | n + 1, σ => match step1 M X σ with
    | some τ => stepN M X n τ
    | none => none
end
section
/-! ===== what the small machine's states mean, and that its steps are the machine's ===== -/
def cv (am xa : Nat → Nat) (v : Value) : Value := match v with
  | .ref k => .ref (if k < 1000 then am k else xa (k - 1000))
  | w => w
def aT (s : State) (cA : ClassId) (ty : FieldType) : Prop := ArrOfT s cA ty ∧ va_RA s cA ty
def co (s : State) (am xa : Nat → Nat) (o : AO) (e : va_E) : Prop := match o with
  | .inl (ty, n, f) => ∃ cA : ClassId, e = .inl (cA, n, .inl f) ∧ aT s cA ty
  | .inr (.inl (n, g)) => ∃ cA : ClassId, e = .inl (cA, n, .inr (.inr (.inr (.inr (fun i => if i < n then some (am (g i)) else none))))) ∧ aT s cA (.array .int)
  | .inr (.inr (ci, fs)) => e = .inr (ci, fs.map (cv am xa))
def HOk (D : va_G) (s : State) (A : Nat → Prop) (am xa : Nat → Nat) (h : AH) (H : Heap) (ws : va_W) : Prop :=
  va_P D vwCl ws H ∧ va_D A ws ∧ ws.length = h.length ∧ h.length ≤ 1000 ∧ ∀ (k : Nat) (o : AO), h[k]? = some o → ∃ e, ws[k]? = some (am k, e) ∧ co s am xa o e
def gL (ls : AL) : Prop := (ls.map Prod.fst).Nodup ∧ ∀ q ∈ ls, q.2.category = 1
def lc (am xa : Nat → Nat) (ls : AL) : AL := ls.map fun q => (q.1, cv am xa q.2)
def CxOk (M : MI) (X : AX) (p : Program) (R : Room) (s : State) (m : MethodId) (args : Array Value) (meth : Method) (c : Code) (D : va_G) (xa : Nat → Nat) (A : Nat → Prop) : Prop :=
  p.tables.exec = Jvm.exec ∧ c.code = mb M ∧ c.maxLocals = mL M ∧ (∀ w ∈ gw, w.before args s = true) ∧ (∀ w ∈ nw, va_Nw w s) ∧ (Cond.arrayOver (.array .int)).before #[] s = true ∧ s.vm.findClass (mo M) = some m.cls ∧ ((my M).name = "<init>" → meth.name = "<init>") ∧ (∀ q, s.heap.size ≤ q → A q) ∧ va_K D vwCl [] s ∧
  (∀ k, k < 7 → va_Z "BargeBallast" (stN k) "[I" (.ref (xa k)) A s s.heap) ∧ (∀ k n f, X k = some (n, f) → va_T .int (xa k) n (fun j => .int (f j)) A s s.heap) ∧ mF M ≤ R.frames ∧ mW M ≤ R.locals ∧ mC M ≤ R.cells ∧ mS M ≤ R.slots ∧ meth.locks = false
def Sat (M : MI) (p : Program) (l : Launch) (e : Env) (R : Room) (s : State) (m : MethodId) (args : Array Value) (below : List Frame) (meth : Method) (c : Code) (D : va_G) (xa : Nat → Nat) (A : Nat → Prop) (am0 : Nat → Nat) (n0 : Nat) (Q : State → Prop) (σ : AS) : Prop :=
  ∀ (am : Nat → Nat) (H : Heap) (locs : List Loc) (ws : va_W) (lsC : Array Slot), n0 ≤ σ.2.2.2.1.length → (∀ k, (k < n0 ∨ σ.2.2.2.1.length ≤ k) → am k = am0 k) → HOk D s A am xa σ.2.2.2.1 H ws → va_S A s.heap H locs → lv_has lsC (mL M) (lc am xa σ.2.1) → gL σ.2.1 →
    W p l e R s m args below meth c H locs σ.2.2.2.2.1 σ.2.2.2.2.2 Q (F0 m σ.1 lsC (σ.2.2.1.map (cv am xa)))
/-- from σ the method comes to a state that is Ψ -/
def Rch (M : MI) (X : AX) (σ : AS) (Ψ : AS → Prop) : Prop := MOk M → ∀ (p : Program) (l : Launch) (e : Env) (R : Room) (s : State) (m : MethodId) (args : Array Value) (below : List Frame) (meth : Method) (c : Code) (D : va_G) (xa : Nat → Nat) (A : Nat → Prop) (am0 : Nat → Nat) (n0 : Nat) (Q : State → Prop),
  CxOk M X p R s m args meth c D xa A → (∀ τ, Ψ τ → Sat M p l e R s m args below meth c D xa A am0 n0 Q τ) → Sat M p l e R s m args below meth c D xa A am0 n0 Q σ
theorem Rch.rf {M : MI} {X : AX} {σ : AS} {Ψ : AS → Prop} (h : Ψ σ) : Rch M X σ Ψ := fun _ _ _ _ _ _ _ _ _ _ _ _ _ _ _ _ _ _ k => k σ h
theorem Rch.tr {M : MI} {X : AX} {σ : AS} {Ψ Φ : AS → Prop} (h : Rch M X σ Ψ) (k : ∀ τ, Ψ τ → Rch M X τ Φ) : Rch M X σ Φ :=
  fun ok p l e R s m args below meth c D xa A am0 n0 Q cx f => h ok p l e R s m args below meth c D xa A am0 n0 Q cx (fun τ hτ => k τ hτ ok p l e R s m args below meth c D xa A am0 n0 Q cx f)
theorem Rch.mono {M : MI} {X : AX} {σ : AS} {Ψ Φ : AS → Prop} (h : Rch M X σ Ψ) (k : ∀ τ, Ψ τ → Φ τ) : Rch M X σ Φ := h.tr fun τ hτ => Rch.rf (k τ hτ)
theorem getL_mem {ls : AL} {i : Nat} {v : Value} (h : getL ls i = some v) : (i, v) ∈ ls := by
  induction ls with
  | nil => cases h
  | cons q t ih =>
    obtain ⟨j, w⟩ := q
    unfold getL at h
    cases hb : Nat.beq j i with
    | true =>
      rw [hb] at h
      have e : j = i := Nat.eq_of_beq_eq_true hb
      cases h
      subst e
      exact List.mem_cons_self
    | false =>
      rw [hb] at h
      exact List.mem_cons_of_mem _ (ih h)
theorem lc_get {am xa : Nat → Nat} {ls : AL} {i : Nat} {v : Value} {lsC : Array Slot} {n : Nat} (h : lv_has lsC n (lc am xa ls)) (g : getL ls i = some v) : lsC[i]? = some (.val (cv am xa v)) :=
  h.2.2 (i, cv am xa v) (List.mem_map.mpr ⟨(i, v), getL_mem g, rfl⟩)
theorem setL_mem {ls : AL} {i : Nat} {v : Value} {q : Nat × Value} (hn : (ls.map Prod.fst).Nodup) (h : q ∈ setL ls i v) : q = (i, v) ∨ (q ∈ ls ∧ q.1 ≠ i) := by
  induction ls with
  | nil => left; simpa [setL] using h
  | cons x t ih =>
    obtain ⟨j, w⟩ := x
    simp only [List.map_cons, List.nodup_cons] at hn
    unfold setL at h
    cases hb : Nat.beq j i with
    | true =>
      rw [hb] at h
      have e : j = i := Nat.eq_of_beq_eq_true hb
      subst e
      rcases List.mem_cons.mp h with h | h
      · exact Or.inl h
      · refine Or.inr ⟨List.mem_cons_of_mem _ h, fun e2 => hn.1 ?_⟩
        rw [← e2]
        exact List.mem_map.mpr ⟨q, h, rfl⟩
    | false =>
      rw [hb] at h
      have ne : ¬ j = i := fun e => by rw [e, Nat.beq_refl] at hb; cases hb
      rcases List.mem_cons.mp h with h | h
      · subst h
        exact Or.inr ⟨List.mem_cons_self, ne⟩
      · rcases ih hn.2 h with h | ⟨h, h2⟩
        · exact Or.inl h
        · exact Or.inr ⟨List.mem_cons_of_mem _ h, h2⟩
theorem setL_fst {ls : AL} {i : Nat} {v : Value} : (setL ls i v).map Prod.fst = if i ∈ ls.map Prod.fst then ls.map Prod.fst else ls.map Prod.fst ++ [i] := by
  induction ls with
  | nil => simp [setL]
  | cons x t ih =>
    obtain ⟨j, w⟩ := x
    unfold setL
    cases hb : Nat.beq j i with
    | true =>
      have e : j = i := Nat.eq_of_beq_eq_true hb
      subst e
      simp
    | false =>
      have ne : ¬ i = j := fun e => by rw [e, Nat.beq_refl] at hb; cases hb
      simp only [cond_false, List.map_cons, ih, List.mem_cons, ne, false_or]
      split <;> simp
theorem gL_set {ls : AL} {i : Nat} {v : Value} (h : gL ls) (hv : v.category = 1) : gL (setL ls i v) := by
  refine ⟨?_, fun q hq => ?_⟩
  · rw [setL_fst]
    split
    · exact h.1
    · next hn =>
      rw [List.nodup_append]
      exact ⟨h.1, by simp, fun a ha b hb => by rw [List.mem_singleton.mp hb]; exact fun e => hn (e ▸ ha)⟩
  · rcases setL_mem h.1 hq with e | ⟨e, -⟩
    · rw [e]; exact hv
    · exact h.2 q e
theorem cv_cat (am xa : Nat → Nat) (v : Value) : (cv am xa v).category = v.category := by cases v <;> rfl
theorem lc_set {am xa : Nat → Nat} {ls : AL} {i n : Nat} {v : Value} {lsC : Array Slot} (hg : gL ls) (h : lv_has lsC n ((i, cv am xa v) :: (lc am xa ls).filter (fun q => !(q.1 == i) && !(q.1 + 1 == i && q.2.category == 2)))) : lv_has lsC n (lc am xa (setL ls i v)) := by
  refine ⟨h.1, h.2.1, fun q hq => h.2.2 q ?_⟩
  obtain ⟨q0, hq0, rfl⟩ := List.mem_map.mp hq
  rcases setL_mem hg.1 hq0 with e | ⟨e, ne⟩
  · rw [e]; exact List.mem_cons_self
  · refine List.mem_cons_of_mem _ (List.mem_filter.mpr ⟨List.mem_map.mpr ⟨q0, e, rfl⟩, ?_⟩)
    have := hg.2 q0 e
    simp [ne, cv_cat, this]
theorem MOk.at {M : MI} (ok : MOk M) {pc : Nat} {q : Ins} (hq : mk M pc = q) (hn : ¬ q = nopI) : decode (mb M) pc = .ok (q.1, q.2.1) ∧ okI (mo M) pc q = true := by
  by_cases hp : pc < mN M
  · rcases ok.1 pc hp with h | h
    · exact absurd (hq.symm.trans h) hn
    · rw [hq] at h; exact h
  · exact absurd (hq.symm.trans (ok.2 pc (by omega))) hn
end
section
/-! ===== a step of the small machine is a step of the machine ===== -/
theorem nth_some {α : Type} {l : List α} {n : Nat} {x : α} (h : nth l n = some x) : l[n]? = some x := (nth_eq l n) ▸ h
theorem cl_in : ∀ ci C T N, vwCl[ci]? = some (C, T, N) → (∀ w ∈ u_ws C T N, w ∈ gw) ∧ (∀ k, k < N → parseFieldDescriptor (T k).2.2.1 = some (fty ci k)) ∧ (∀ a, a < N → ∀ b, b < N → a ≠ b → (T a).2.1 ≠ (T b).2.1) := by
  intro ci C T N h
  match ci, h with
  | 0, h => cases h; exact ⟨okw_all (by decide +kernel), tyX0_ok, nmX0⟩
  | 1, h => cases h; exact ⟨okw_all (by decide +kernel), tyX3_ok, nmX3⟩
  | 2, h => cases h; exact ⟨okw_all (by decide +kernel), tyX6_ok, nmX6⟩
  | 3, h => cases h; exact ⟨okw_all (by decide +kernel), tyX7_ok, nmX7⟩
  | 4, h => cases h; exact ⟨okw_all (by decide +kernel), tyX8_ok, nmX8⟩
  | n + 5, h => simp [vwCl] at h
theorem okF_some {own : String} {idx ci k : Nat} (h : okF own idx ci k = true) : ∃ C T N, vwCl[ci]? = some (C, T, N) ∧ k < N ∧ (T k).1 = C ∧ Cond.fieldLink own idx C (T k).2.1 (T k).2.2.1 ∈ gw := by
  unfold okF at h
  split at h
  · next C T N hc =>
    simp only [Bool.and_eq_true, decide_eq_true_eq] at h
    exact ⟨C, T, N, hc, h.1.1, h.1.2, okw_in h.2⟩
  · cases h
section STEP
variable {M : MI} {X : AX} {p : Program} {l : Launch} {e : Env} {R : Room} {s : State} {m : MethodId} {args : Array Value} {below : List Frame} {meth : Method} {c : Code} {D : va_G} {xa : Nat → Nat} {A : Nat → Prop} {am0 : Nat → Nat} {n0 : Nat} {Q : State → Prop}
theorem HOk.at {am : Nat → Nat} {h : AH} {H : Heap} {ws : va_W} (hH : HOk D s A am xa h H ws) {k : Nat} {o : AO} (hk : nth h k = some o) : k < 1000 ∧ ∃ e, ws[k]? = some (am k, e) ∧ co s am xa o e := by
  have h1 := nth_some hk
  have h2 := (List.getElem?_eq_some_iff.mp h1).1
  exact ⟨by have := hH.2.2.2.1; omega, hH.2.2.2.2 k o h1⟩
theorem HOk.set {am : Nat → Nat} {h : AH} {H H1 : Heap} {ws : va_W} (hH : HOk D s A am xa h H ws) {k : Nat} {o : AO} {e : va_E} (hP : va_P D vwCl (ws.set k (am k, e)) H1) (hD : va_D A (ws.set k (am k, e))) (he : co s am xa o e) : HOk D s A am xa (setN h k o) H1 (ws.set k (am k, e)) := by
  obtain ⟨-, -, h3, h4, h5⟩ := hH
  rw [setN_eq]
  refine ⟨hP, hD, by simp [h3], by simpa using h4, fun j o' hj => ?_⟩
  rw [List.getElem?_set] at hj ⊢
  by_cases hkj : k = j
  · subst hkj
    rw [if_pos rfl] at hj ⊢
    by_cases hl : k < h.length
    · rw [if_pos hl] at hj
      cases hj
      rw [if_pos (by omega)]
      exact ⟨e, rfl, he⟩
    · rw [if_neg hl] at hj; cases hj
  · rw [if_neg hkj] at hj ⊢
    exact h5 j o' hj
theorem cv_int (am : Nat → Nat) (x : Int32) : cv am xa (.int x) = .int x := rfl
theorem cv_ref (am : Nat → Nat) {k : Nat} (h : k < 1000) : cv am xa (.ref k) = .ref (am k) := by simp [cv, h]
theorem cv_ext (am : Nat → Nat) {k : Nat} (h : 1000 ≤ k) : cv am xa (.ref k) = .ref (xa (k - 1000)) := by simp [cv, Nat.not_lt.mpr h]
theorem nop_ne {i : Instr} {r : Nat × Nat × Int32 × Nat × Nat} (h : i ≠ .nop) : ¬ (i, r) = nopI := fun e => h (congrArg Prod.fst e)
theorem ok_len {own : String} {pc : Nat} {q : Ins} (h : okI own pc q = true) (hz : ilen q.1 ≠ 0) : q.2.2.1 = pc + q.2.1 ∧ q.2.1 = ilen q.1 := by
  unfold okI at h
  simp only [Bool.and_eq_true, Bool.or_eq_true, decide_eq_true_eq] at h
  rcases h.2.1 with g | g
  · exact ⟨h.1, g.symm⟩
  · exact absurd g hz
/-- what the table says of an instruction, by its kind -/
theorem ok_at (ok : MOk M) {pc : Nat} {i : Instr} {len nx a b : Nat} {v : Int32} (hq : mk M pc = (i, len, nx, v, a, b)) (hz : ilen i ≠ 0) : decode (mb M) pc = .ok (i, ilen i) ∧ nx = pc + ilen i ∧ okI (mo M) pc (i, len, nx, v, a, b) = true := by
  obtain ⟨h1, h2⟩ := ok.at hq (nop_ne (fun e => hz (by rw [e]; rfl)))
  obtain ⟨h3, h4⟩ := ok_len h2 hz
  dsimp only at h1 h3 h4
  subst h4
  exact ⟨h1, h3, h2⟩
theorem ok_br (ok : MOk M) {pc : Nat} {i : Instr} {len nx a b : Nat} {v : Int32} (hq : mk M pc = (i, len, nx, v, a, b)) {off : Int} (hi : i = .goto off ∨ (∃ k, i = .if_icmp k off) ∨ (∃ k, i = .ifCond k off) ∨ i = .ifnull off ∨ i = .ifnonnull off) : decode (mb M) pc = .ok (i, 3) ∧ nx = pc + 3 ∧ (pc : Int) + off = (a : Int) := by
  rcases hi with rfl | ⟨k, rfl⟩ | ⟨k, rfl⟩ | rfl | rfl
  all_goals
    obtain ⟨h1, h2, h3⟩ := ok_at ok hq (by simp [ilen])
    simp only [okI, Bool.and_eq_true, decide_eq_true_eq] at h3
    exact ⟨h1, h2, h3.2.2⟩
theorem cmp_if {pc : Nat} {lsC : Array Slot} {rest : List Value} {H : Heap} {locs : List Loc} {cc cs : Nat} {k : Jvm.ClassFile.Cond} {off : Int} {x : Int32} {a : Nat} (hx : p.tables.exec = Jvm.exec) (hb : c.code = mb M) (hd : decode (mb M) pc = .ok (.ifCond k off, 3)) (ht : (pc : Int) + off = (a : Int))
    (kt : cmpB k x 0 = true → W p l e R s m args below meth c H locs cc cs Q (F0 m a lsC rest)) (kf : cmpB k x 0 = false → W p l e R s m args below meth c H locs cc cs Q (F0 m (pc + 3) lsC rest)) : W p l e R s m args below meth c H locs cc cs Q (F0 m pc lsC (.int x :: rest)) := by
  cases k with
  | eq => exact lv_if_eq hx hb hd ht (fun z => kt (by simp [cmpB, z])) (fun z => kf (by simp [cmpB, z]))
  | ne => exact lv_if_ne hx hb hd ht (fun z => kt (by simp [cmpB, z])) (fun z => kf (by simp [cmpB, z]))
  | lt => exact lv_if_lt hx hb hd ht (fun z => kt (by simp [cmpB, z])) (fun z => kf (by simp [cmpB, z]))
  | ge => exact lv_if_ge hx hb hd ht (fun z => kt (by simp only [cmpB, z, decide_true])) (fun z => kf (by simp only [cmpB, z, decide_false]))
  | gt => exact lv_if_gt hx hb hd ht (fun z => kt (by simp [cmpB, z])) (fun z => kf (by simp [cmpB, z]))
  | le => exact lv_if_le hx hb hd ht (fun z => kt (by simp only [cmpB, z, decide_true])) (fun z => kf (by simp only [cmpB, z, decide_false]))
theorem cmp_ic {pc : Nat} {lsC : Array Slot} {rest : List Value} {H : Heap} {locs : List Loc} {cc cs : Nat} {k : Jvm.ClassFile.Cond} {off : Int} {x y : Int32} {a : Nat} (hx : p.tables.exec = Jvm.exec) (hb : c.code = mb M) (hd : decode (mb M) pc = .ok (.if_icmp k off, 3)) (ht : (pc : Int) + off = (a : Int))
    (kt : cmpB k x y = true → W p l e R s m args below meth c H locs cc cs Q (F0 m a lsC rest)) (kf : cmpB k x y = false → W p l e R s m args below meth c H locs cc cs Q (F0 m (pc + 3) lsC rest)) : W p l e R s m args below meth c H locs cc cs Q (F0 m pc lsC (.int y :: .int x :: rest)) := by
  cases k with
  | eq => exact lv_icmp_eq hx hb hd ht (fun z => kt (by simp [cmpB, z])) (fun z => kf (by simp [cmpB, z]))
  | ne => exact lv_icmp_ne hx hb hd ht (fun z => kt (by simp [cmpB, z])) (fun z => kf (by simp [cmpB, z]))
  | lt => exact lv_icmp_lt hx hb hd ht (fun z => kt (by simp [cmpB, z])) (fun z => kf (by simp [cmpB, z]))
  | ge => exact lv_icmp_ge hx hb hd ht (fun z => kt (by simp only [cmpB, z, decide_true])) (fun z => kf (by simp only [cmpB, z, decide_false]))
  | gt => exact lv_icmp_gt hx hb hd ht (fun z => kt (by simp [cmpB, z])) (fun z => kf (by simp [cmpB, z]))
  | le => exact lv_icmp_le hx hb hd ht (fun z => kt (by simp only [cmpB, z, decide_true])) (fun z => kf (by simp only [cmpB, z, decide_false]))
end STEP
end
section
theorem nw_before {a : String} {i : Nat} {b n d h : String} {s : State} (hZ : va_Nw (.fieldLinkNest a i b n d h) s) (args : Array Value) : (Cond.fieldLinkNest a i b n d h).before args s = true := hZ
theorem va_aldA {p : Program} {l : Launch} {e : Env} {R : Room} {s : State} {m : MethodId} {args : Array Value} {below : List Frame} {meth : Method} {c : Code} {H : Heap} {locs : List Loc} {cells slots : Nat} {Q : State → Prop} {cc : ByteArray} {pc : Nat} {ls : Array Slot} {rest : List Value} {D : va_G} {cl : List vw_C} {a : Nat} {ws : va_W} (hexec : p.tables.exec = Jvm.exec) (hb : c.code = cc) (hP : va_P D cl ws H) (q0 : Nat) {cA : ClassId} {n : Nat} {f : Nat → Option Nat} (ha : ws[q0]? = some (a, .inl (cA, n, .inr (.inr (.inr (.inr f)))))) (hT : ArrOfT s cA (.array .int)) {i : Int32} (hin : vp_in i n) (hdg : decode cc pc = .ok (.aaload, 1))
    (kk : W p l e R s m args below meth c H locs cells slots Q (F0 m (pc + 1) ls (va_rf (f i.toNatClampNeg) :: rest))) : W p l e R s m args below meth c H locs cells slots Q (F0 m pc ls (.int i :: .ref a :: rest)) := by
  have hlt : i.toNatClampNeg < n := Nat.not_le.mp fun q => hin (Or.inr q)
  exact W.aald (v := va_rf (f i.toNatClampNeg)) (ty := .array .int) hexec hb (hP q0 _ ha) (hT n (fun j => va_rf (f j))) rfl (fun q => by cases q) (by show ¬ (i < 0 ∨ (arrV _ _ _).slots.size ≤ _); rw [arrV_size]; exact hin) (by show (arrV _ _ _).slots[_]? = _; rw [arrV_read _ _ hlt]) rfl rfl hdg kk
theorem inB_lt {i : Int32} {n : Nat} (h : inB i n = true) : i.toNatClampNeg < n := by
  unfold inB at h
  simp only [Bool.and_eq_true] at h
  have := Nat.le_of_ble_eq_true h.2
  omega
theorem cond_some {α : Type} {b : Bool} {x : Option α} {t : α} (h : cond b x none = some t) : b = true ∧ x = some t := by
  cases b with
  | true => exact ⟨rfl, h⟩
  | false => cases h
theorem putOk_nf {ty : FieldType} {v : Value} (h : putOk ty v = true) : narrow ty v = v ∧ fits ty v = true := by
  unfold putOk at h
  split at h
  · exact ⟨rfl, rfl⟩
  · next x =>
    simp only [Bool.or_eq_true, decide_eq_true_eq] at h
    rcases h with rfl | rfl <;> exact ⟨rfl, rfl⟩
  · exact ⟨rfl, rfl⟩
  · exact ⟨rfl, rfl⟩
  · cases h
theorem putOk_cv {am xa : Nat → Nat} {ty : FieldType} {v : Value} (h : putOk ty v = true) : putOk ty (cv am xa v) = true := by
  cases v with
  | ref k => cases ty <;> first | exact h | cases h
  | _ => exact h
set_option maxHeartbeats 4000000 in
theorem step1_sat {M : MI} {X : AX} {p : Program} {l : Launch} {e : Env} {R : Room} {s : State} {m : MethodId} {args : Array Value} {below : List Frame} {meth : Method} {c : Code} {D : va_G} {xa : Nat → Nat} {A : Nat → Prop} {am0 : Nat → Nat} {n0 : Nat} {Q : State → Prop} (ok : MOk M) (cx : CxOk M X p R s m args meth c D xa A) {σ τ : AS} (hst : step1 M X σ = some τ) (k : Sat M p l e R s m args below meth c D xa A am0 n0 Q τ) : Sat M p l e R s m args below meth c D xa A am0 n0 Q σ := by
  obtain ⟨hx, hb, hml, hts, hnw, hov, hown, hini, hA, hK, hZ, hT, -⟩ := cx
  obtain ⟨pc, ls, st, h, cc, cs⟩ := σ
  intro am H locs ws lsC hn0 ham hH hS hl hg
  dsimp only at hn0 ham hH hl hg ⊢
  unfold step1 at hst
  dsimp only at hst
  generalize hq : mk M pc = q at hst
  obtain ⟨i, len, nx, v, a, b⟩ := q
  dsimp only at hst
  have go : ∀ {nx : Nat} {st' : List Value}, some (nx, ls, st', h, cc, cs) = some τ → W p l e R s m args below meth c H locs cc cs Q (F0 m nx lsC (st'.map (cv am xa))) := by
    intro nx st' e1
    cases e1
    exact k am H locs ws lsC hn0 ham hH hS hl hg
  have put : ∀ {nx : Nat} {st' : List Value} {h' : AH} {H1 : Heap} {locs1 : List Loc} {ws1 : va_W}, some (nx, ls, st', h', cc, cs) = some τ → h'.length = h.length → HOk D s A am xa h' H1 ws1 → va_S A s.heap H1 locs1 → W p l e R s m args below meth c H1 locs1 cc cs Q (F0 m nx lsC (st'.map (cv am xa))) := by
    intro nx st' h' H1 locs1 ws1 e1 e2 e3 e4
    cases e1
    exact k am H1 locs1 ws1 lsC (by dsimp only; omega) (by dsimp only; rw [e2]; exact ham) e3 e4 hl hg
  have sto : ∀ {nx : Nat} {st' : List Value} {i : Nat} {w : Value} (ls' : Array Slot), some (nx, setL ls i w, st', h, cc, cs) = some τ → w.category = 1 → lv_has ls' (mL M) ((i, cv am xa w) :: (lc am xa ls).filter (fun q => !(q.1 == i) && !(q.1 + 1 == i && q.2.category == 2))) → W p l e R s m args below meth c H locs cc cs Q (F0 m nx ls' (st'.map (cv am xa))) := by
    intro nx st' i w ls' e1 e2 e3
    cases e1
    exact k am H locs ws ls' hn0 ham hH hS (lc_set hg e3) (gL_set hg e2)
  cases i
  case iconst n =>
    dsimp only at hst
    obtain ⟨d, rfl, o⟩ := ok_at ok hq (by simp [ilen])
    simp only [okI, Bool.and_eq_true, decide_eq_true_eq] at o
    exact lv_iconst hx hb d o.2.2.symm (go hst)
  case bipush n =>
    dsimp only at hst
    obtain ⟨d, rfl, o⟩ := ok_at ok hq (by simp [ilen])
    simp only [okI, Bool.and_eq_true, decide_eq_true_eq] at o
    exact lv_bipush hx hb d o.2.2.symm (go hst)
  case sipush n =>
    dsimp only at hst
    obtain ⟨d, rfl, o⟩ := ok_at ok hq (by simp [ilen])
    simp only [okI, Bool.and_eq_true, decide_eq_true_eq] at o
    exact lv_sipush hx hb d o.2.2.symm (go hst)
  case iload n =>
    dsimp only at hst
    obtain ⟨d, rfl, o⟩ := ok_at ok hq (by simp [ilen])
    simp only [okI, Bool.and_eq_true, decide_eq_true_eq] at o
    split at hst
    · next x hx2 => exact lv_iload hx hb d (by rw [o.2.2]; exact lc_get hl hx2) (go hst)
    · cases hst
  case iload_n n =>
    dsimp only at hst
    obtain ⟨d, rfl, o⟩ := ok_at ok hq (by simp [ilen])
    simp only [okI, Bool.and_eq_true, decide_eq_true_eq] at o
    split at hst
    · next x hx2 => exact lv_iload_n hx hb d o.2.2 (lc_get hl hx2) (go hst)
    · cases hst
  case aload n =>
    dsimp only at hst
    obtain ⟨d, rfl, o⟩ := ok_at ok hq (by simp [ilen])
    simp only [okI, Bool.and_eq_true, decide_eq_true_eq] at o
    split at hst
    · next x hx2 => exact lv_aload hx hb d (by rw [o.2.2]; exact lc_get hl hx2) (go hst)
    · cases hst
  case aload_n n =>
    dsimp only at hst
    obtain ⟨d, rfl, o⟩ := ok_at ok hq (by simp [ilen])
    simp only [okI, Bool.and_eq_true, decide_eq_true_eq] at o
    split at hst
    · next x hx2 => exact lv_aload_n hx hb d o.2.2 (lc_get hl hx2) (go hst)
    · cases hst
  case istore n =>
    dsimp only at hst
    obtain ⟨d, rfl, o⟩ := ok_at ok hq (by simp [ilen])
    simp only [okI, Bool.and_eq_true, decide_eq_true_eq] at o
    obtain rfl := o.2.2
    split at hst
    · next x r =>
      obtain ⟨c1, c2⟩ := cond_some hst
      exact lv_istore hx hb d hl (Nat.lt_of_succ_le (Nat.le_of_ble_eq_true c1)) rfl (fun ls' hl' => sto ls' c2 rfl hl')
    · cases hst
  case istore_n n =>
    dsimp only at hst
    obtain ⟨d, rfl, o⟩ := ok_at ok hq (by simp [ilen])
    simp only [okI, Bool.and_eq_true, decide_eq_true_eq] at o
    split at hst
    · next x r =>
      obtain ⟨c1, c2⟩ := cond_some hst
      exact lv_istore_n hx hb d o.2.2 hl (Nat.lt_of_succ_le (Nat.le_of_ble_eq_true c1)) rfl (fun ls' hl' => sto ls' c2 rfl hl')
    · cases hst
  case astore_n n =>
    dsimp only at hst
    obtain ⟨d, rfl, o⟩ := ok_at ok hq (by simp [ilen])
    simp only [okI, Bool.and_eq_true, decide_eq_true_eq] at o
    split at hst
    · next x r =>
      obtain ⟨c1, c2⟩ := cond_some hst
      exact lv_astore_n hx hb d o.2.2 hl (Nat.lt_of_succ_le (Nat.le_of_ble_eq_true c1)) rfl (fun ls' hl' => sto ls' c2 rfl hl')
    · cases hst
  case iinc n z =>
    dsimp only at hst
    obtain ⟨d, rfl, o⟩ := ok_at ok hq (by simp [ilen])
    simp only [okI, Bool.and_eq_true, decide_eq_true_eq] at o
    obtain ⟨ov, rfl⟩ := o.2.2
    split at hst
    · next x hx2 =>
      obtain ⟨c1, c2⟩ := cond_some hst
      obtain ⟨j, hj⟩ := List.getElem?_of_mem (List.mem_map.mpr ⟨_, getL_mem hx2, rfl⟩ : (n, cv am xa (.int x)) ∈ lc am xa ls)
      exact lv_iinc hx hb d hl hj rfl (Nat.lt_of_succ_le (Nat.le_of_ble_eq_true c1)) rfl (fun ls' hl' => sto ls' c2 rfl (by rw [ov]; exact hl'))
    · cases hst
  case iadd =>
    dsimp only at hst
    obtain ⟨d, rfl, o⟩ := ok_at ok hq (by simp [ilen])
    split at hst
    · exact lv_iadd hx hb d (go hst)
    · cases hst
  case isub =>
    dsimp only at hst
    obtain ⟨d, rfl, o⟩ := ok_at ok hq (by simp [ilen])
    split at hst
    · exact lv_isub hx hb d (go hst)
    · cases hst
  case imul =>
    dsimp only at hst
    obtain ⟨d, rfl, o⟩ := ok_at ok hq (by simp [ilen])
    split at hst
    · exact lv_imul hx hb d (go hst)
    · cases hst
  case iand =>
    dsimp only at hst
    obtain ⟨d, rfl, o⟩ := ok_at ok hq (by simp [ilen])
    split at hst
    · exact lv_iand hx hb d (go hst)
    · cases hst
  case ior =>
    dsimp only at hst
    obtain ⟨d, rfl, o⟩ := ok_at ok hq (by simp [ilen])
    split at hst
    · exact lv_ior hx hb d (go hst)
    · cases hst
  case ishl =>
    dsimp only at hst
    obtain ⟨d, rfl, o⟩ := ok_at ok hq (by simp [ilen])
    split at hst
    · exact lv_ishl hx hb d (go hst)
    · cases hst
  case ishr =>
    dsimp only at hst
    obtain ⟨d, rfl, o⟩ := ok_at ok hq (by simp [ilen])
    split at hst
    · exact lv_ishr hx hb d (go hst)
    · cases hst
  case idiv =>
    dsimp only at hst
    obtain ⟨d, rfl, o⟩ := ok_at ok hq (by simp [ilen])
    split at hst
    · next y x r =>
      by_cases hy : y = 0
      · rw [show decide (y = 0) = true by simp [hy]] at hst; cases hst
      · rw [show decide (y = 0) = false by simp [hy]] at hst
        exact lv_idiv hx hb d hy (go hst)
    · cases hst
  case irem =>
    dsimp only at hst
    obtain ⟨d, rfl, o⟩ := ok_at ok hq (by simp [ilen])
    split at hst
    · next y x r =>
      by_cases hy : y = 0
      · rw [show decide (y = 0) = true by simp [hy]] at hst; cases hst
      · rw [show decide (y = 0) = false by simp [hy]] at hst
        exact lv_irem hx hb d hy (go hst)
    · cases hst
  case ineg =>
    dsimp only at hst
    obtain ⟨d, rfl, o⟩ := ok_at ok hq (by simp [ilen])
    split at hst
    · exact lv_ineg hx hb d (go hst)
    · cases hst
  case i2c =>
    dsimp only at hst
    obtain ⟨d, rfl, o⟩ := ok_at ok hq (by simp [ilen])
    split at hst
    · exact lv_i2c hx hb d rfl (go hst)
    · cases hst
  case dup =>
    dsimp only at hst
    obtain ⟨d, rfl, o⟩ := ok_at ok hq (by simp [ilen])
    split at hst
    · exact lv_dup hx hb d rfl (go hst)
    · exact lv_dup hx hb d rfl (go hst)
    · cases hst
  case dup2 =>
    dsimp only at hst
    obtain ⟨d, rfl, o⟩ := ok_at ok hq (by simp [ilen])
    split at hst
    · exact lv_dup2_11 hx hb d rfl rfl (go hst)
    · cases hst
  case goto off =>
    dsimp only at hst
    obtain ⟨d, rfl, o⟩ := ok_br ok hq (off := off) (Or.inl rfl)
    exact lv_goto hx hb d o (go hst)
  case if_icmp c1 off =>
    dsimp only at hst
    obtain ⟨d, rfl, o⟩ := ok_br ok hq (off := off) (Or.inr (Or.inl ⟨_, rfl⟩))
    split at hst
    · exact cmp_ic hx hb d o (fun z => go (by rw [z] at hst; exact hst)) (fun z => go (by rw [z] at hst; exact hst))
    · cases hst
  case ifCond c1 off =>
    dsimp only at hst
    obtain ⟨d, rfl, o⟩ := ok_br ok hq (off := off) (Or.inr (Or.inr (Or.inl ⟨_, rfl⟩)))
    split at hst
    · exact cmp_if hx hb d o (fun z => go (by rw [z] at hst; exact hst)) (fun z => go (by rw [z] at hst; exact hst))
    · cases hst
  case ifnull off =>
    dsimp only at hst
    obtain ⟨d, rfl, o⟩ := ok_br ok hq (off := off) (by simp)
    split at hst
    · exact lv_ifnull hx hb d (go hst)
    · cases hst
  case ifnonnull off =>
    dsimp only at hst
    obtain ⟨d, rfl, o⟩ := ok_br ok hq (off := off) (by simp)
    split at hst
    · exact lv_ifnonnull hx hb d o (go hst)
    · cases hst
  case getfield idx =>
    dsimp only at hst
    obtain ⟨d, rfl, o⟩ := ok_at ok hq (by simp [ilen])
    simp only [okI, Bool.and_eq_true] at o
    obtain ⟨C, T, N, hc, hk, hC, hlink⟩ := okF_some o.2.2
    split at hst
    · next o1 r =>
      split at hst
      · next ci fs hnt =>
        obtain ⟨c1, c2⟩ := cond_some hst
        have hci : ci = a := Nat.eq_of_beq_eq_true c1
        subst hci
        obtain ⟨hk1, e1, he1, he2⟩ := hH.at hnt
        obtain rfl : e1 = _ := he2
        split at c2
        · next w hw =>
          show W p l e R s m args below meth c H locs cc cs Q (F0 m pc lsC (cv am xa (.ref o1) :: r.map (cv am xa)))
          rw [cv_ref am hk1]
          exact va_get hx hb hts (cl_in _ _ _ _ hc).1 hown hK hH.1 o1 he1 hc b hk (hts _ hlink) (fun x hx2 => by rw [hC] at hx2; exact hx2) (by rw [List.getElem?_map, nth_some hw]; rfl) d (go c2)
        · cases c2
      · cases hst
    · cases hst
  case putfield idx =>
    dsimp only at hst
    obtain ⟨d, rfl, o⟩ := ok_at ok hq (by simp [ilen])
    simp only [okI, Bool.and_eq_true] at o
    obtain ⟨C, T, N, hc, hk, hC, hlink⟩ := okF_some o.2.2
    split at hst
    · next w o1 r =>
      split at hst
      · next ci fs hnt =>
        obtain ⟨c1, c2⟩ := cond_some hst
        simp only [Bool.and_eq_true] at c1
        obtain ⟨c1, c3, c4, c5⟩ := c1
        have hci : ci = a := Nat.eq_of_beq_eq_true c1
        subst hci
        obtain ⟨hk1, e1, he1, he2⟩ := hH.at hnt
        obtain rfl : e1 = _ := he2
        have hlen : b < fs.length := by have := Nat.le_of_ble_eq_true c5; omega
        obtain ⟨n1, n2⟩ := putOk_nf (putOk_cv (am := am) (xa := xa) c3)
        obtain ⟨i1, i2, i3⟩ := cl_in _ _ _ _ hc
        have fin : ∀ (H1 : Heap) (locs1 : List Loc), va_P D vwCl (ws.set o1 (am o1, .inr (ci, (fs.map (cv am xa)).set b (cv am xa w)))) H1 → va_D A (ws.set o1 (am o1, .inr (ci, (fs.map (cv am xa)).set b (cv am xa w)))) → va_S A s.heap H1 locs1 → W p l e R s m args below meth c H1 locs1 cc cs Q (F0 m (pc + 3) lsC (r.map (cv am xa))) := by
          intro H1 locs1 hP1 hD1 hS1
          exact put c2 (by simp [setN_eq]) (hH.set hP1 hD1 (by show _ = _; rw [setN_eq, List.map_set])) hS1
        show W p l e R s m args below meth c H locs cc cs Q (F0 m pc lsC (cv am xa w :: cv am xa (.ref o1) :: r.map (cv am xa)))
        rw [cv_ref am hk1]
        have hfin := c4
        unfold finOk at hfin
        rw [nth_eq, hc] at hfin
        simp only [Bool.or_eq_true, Bool.and_eq_true, decide_eq_true_eq] at hfin
        cases hf : (T b).2.2.2 with
        | false => exact va_put hx hb hts i1 (fty ci) i2 i3 hown hK hH.1 hH.2.1 hS o1 he1 hc b hk (hts _ hlink) (fun x hx2 => by rw [hC] at hx2; exact hx2) hf (i2 b hk) n1 n2 (by simpa using hlen) d fin
        | true =>
          rw [hf] at hfin
          rcases hfin with z | z
          · cases z
          · exact va_putF hx hb hts i1 (fty ci) i2 i3 hown hK hH.1 hH.2.1 hS o1 he1 hc b hk (hts _ hlink) (fun x hx2 => by rw [hC] at hx2; exact hx2) hf (hini z.1) z.2 (i2 b hk) n1 n2 (by simpa using hlen) d fin
      · cases hst
    · cases hst
  case getstatic idx =>
    dsimp only at hst
    obtain ⟨d, rfl, o⟩ := ok_at ok hq (by simp [ilen])
    simp only [okI, okS, Bool.and_eq_true, Bool.or_eq_true, decide_eq_true_eq] at o
    have hz := hZ a o.2.2.1
    have hc : cv am xa (.ref (1000 + a)) = .ref (xa a) := by rw [cv_ext am (Nat.le_add_right _ _), Nat.add_sub_cancel_left]
    have g := go hst
    rw [List.map_cons, hc] at g
    rcases o.2.2.2 with w | w
    · exact va_gets hx hb hz hS hown (hts _ (okw_in w)) (fun x hx2 => hx2) d g
    · exact va_getsN hx hb hz hS hown (nw_before (hnw _ w) args) (fun x hx2 => hx2) d g
  case arraylength =>
    dsimp only at hst
    obtain ⟨d, rfl, o⟩ := ok_at ok hq (by simp [ilen])
    split at hst
    · next o1 r =>
      cases hb1 : Nat.ble 1000 o1 with
      | true =>
        rw [hb1] at hst
        dsimp only [cond_true] at hst
        split at hst
        · next n f hX =>
          show W p l e R s m args below meth c H locs cc cs Q (F0 m pc lsC (cv am xa (.ref o1) :: r.map (cv am xa)))
          rw [cv_ext am (Nat.le_of_ble_eq_true hb1)]
          exact va_tlen hx hb (hT _ _ _ hX) hS rfl d (go hst)
        · cases hst
      | false =>
        rw [hb1] at hst
        dsimp only [cond_false] at hst
        split at hst
        · next ty n f hnt =>
          obtain ⟨hk1, e1, he1, cA, rfl, hTT⟩ := hH.at hnt
          show W p l e R s m args below meth c H locs cc cs Q (F0 m pc lsC (cv am xa (.ref o1) :: r.map (cv am xa)))
          rw [cv_ref am hk1]
          exact va_alen hx hb (tys := [(cA, ty)]) ⟨hK.1, fun k9 q9 h9 => by
            have : k9 < 1 := (List.getElem?_eq_some_iff.mp h9).1
            rw [show k9 = 0 by omega] at h9
            cases h9
            exact hTT⟩ hH.1 o1 0 he1 rfl rfl d (go hst)
        · cases hst
    · cases hst
  case iaload =>
    dsimp only at hst
    obtain ⟨d, rfl, o⟩ := ok_at ok hq (by simp [ilen])
    split at hst
    · next j o1 r =>
      cases hb1 : Nat.ble 1000 o1 with
      | true =>
        rw [hb1] at hst
        dsimp only [cond_true] at hst
        split at hst
        · next n f hX =>
          obtain ⟨c1, c2⟩ := cond_some hst
          show W p l e R s m args below meth c H locs cc cs Q (F0 m pc lsC (.int j :: cv am xa (.ref o1) :: r.map (cv am xa)))
          rw [cv_ext am (Nat.le_of_ble_eq_true hb1)]
          exact va_ti hx hb (hT _ _ _ hX) hS (inB_vp c1) rfl d (go c2)
        · cases hst
      | false =>
        rw [hb1] at hst
        dsimp only [cond_false] at hst
        split at hst
        · next n f hnt =>
          obtain ⟨c1, c2⟩ := cond_some hst
          obtain ⟨hk1, e1, he1, cA, rfl, hTT⟩ := hH.at hnt
          show W p l e R s m args below meth c H locs cc cs Q (F0 m pc lsC (.int j :: cv am xa (.ref o1) :: r.map (cv am xa)))
          rw [cv_ref am hk1]
          exact va_iald hx hb (tys := [(cA, .int)]) ⟨hK.1, fun k9 q9 h9 => by
            have : k9 < 1 := (List.getElem?_eq_some_iff.mp h9).1
            rw [show k9 = 0 by omega] at h9
            cases h9
            exact hTT⟩ hH.1 o1 0 he1 rfl (inB_vp c1) d (go c2)
        · cases hst
    · cases hst
  case caload =>
    dsimp only at hst
    obtain ⟨d, rfl, o⟩ := ok_at ok hq (by simp [ilen])
    split at hst
    · next j o1 r =>
      split at hst
      · next n f hnt =>
        obtain ⟨c1, c2⟩ := cond_some hst
        obtain ⟨hk1, e1, he1, cA, rfl, hTT⟩ := hH.at hnt
        show W p l e R s m args below meth c H locs cc cs Q (F0 m pc lsC (.int j :: cv am xa (.ref o1) :: r.map (cv am xa)))
        rw [cv_ref am hk1]
        exact va_cald hx hb (tys := [(cA, .char)]) ⟨hK.1, fun k9 q9 h9 => by
          have : k9 < 1 := (List.getElem?_eq_some_iff.mp h9).1
          rw [show k9 = 0 by omega] at h9
          cases h9
          exact hTT⟩ hH.1 o1 0 he1 rfl (inB_vp c1) d (go c2)
      · cases hst
    · cases hst
  case aaload =>
    dsimp only at hst
    obtain ⟨d, rfl, o⟩ := ok_at ok hq (by simp [ilen])
    split at hst
    · next j o1 r =>
      split at hst
      · next n g hnt =>
        obtain ⟨c1, c2⟩ := cond_some hst
        simp only [Bool.and_eq_true] at c1
        obtain ⟨hk1, e1, he1, cA, rfl, hTT⟩ := hH.at hnt
        have g2 := go c2
        rw [List.map_cons, cv_ref am (by have := Nat.le_of_ble_eq_true c1.2; omega)] at g2
        show W p l e R s m args below meth c H locs cc cs Q (F0 m pc lsC (.int j :: cv am xa (.ref o1) :: r.map (cv am xa)))
        rw [cv_ref am hk1]
        exact va_aldA hx hb hH.1 o1 he1 hTT.1 (inB_vp c1.1) d (by rw [if_pos (inB_lt c1.1)]; exact g2)
      · cases hst
    · cases hst
  case iastore =>
    dsimp only at hst
    obtain ⟨d, rfl, o⟩ := ok_at ok hq (by simp [ilen])
    split at hst
    · next x j o1 r =>
      split at hst
      · next n f hnt =>
        obtain ⟨c1, c2⟩ := cond_some hst
        obtain ⟨hk1, e1, he1, cA, rfl, hTT⟩ := hH.at hnt
        show W p l e R s m args below meth c H locs cc cs Q (F0 m pc lsC (.int x :: .int j :: cv am xa (.ref o1) :: r.map (cv am xa)))
        rw [cv_ref am hk1]
        exact va_iast hx hb (tys := [(cA, .int)]) ⟨hK.1, fun k9 q9 h9 => by
          have : k9 < 1 := (List.getElem?_eq_some_iff.mp h9).1
          rw [show k9 = 0 by omega] at h9
          cases h9
          exact hTT⟩ hH.1 hH.2.1 hS o1 0 he1 rfl (inB_vp c1) d (fun H1 locs1 hP1 hD1 hS1 => put c2 (by simp [setN_eq]) (hH.set hP1 hD1 ⟨cA, rfl, hTT⟩) hS1)
      · cases hst
    · cases hst
  case castore =>
    dsimp only at hst
    obtain ⟨d, rfl, o⟩ := ok_at ok hq (by simp [ilen])
    split at hst
    · next x j o1 r =>
      split at hst
      · next n f hnt =>
        obtain ⟨c1, c2⟩ := cond_some hst
        obtain ⟨hk1, e1, he1, cA, rfl, hTT⟩ := hH.at hnt
        show W p l e R s m args below meth c H locs cc cs Q (F0 m pc lsC (.int x :: .int j :: cv am xa (.ref o1) :: r.map (cv am xa)))
        rw [cv_ref am hk1]
        exact va_cast hx hb (tys := [(cA, .char)]) ⟨hK.1, fun k9 q9 h9 => by
          have : k9 < 1 := (List.getElem?_eq_some_iff.mp h9).1
          rw [show k9 = 0 by omega] at h9
          cases h9
          exact hTT⟩ hH.1 hH.2.1 hS o1 0 he1 rfl (inB_vp c1) d (fun H1 locs1 hP1 hD1 hS1 => put c2 (by simp [setN_eq]) (hH.set hP1 hD1 ⟨cA, rfl, hTT⟩) hS1)
      · cases hst
    · cases hst
  all_goals first | cases hst | (dsimp only at hst; cases hst)
theorem Rch.st1 {M : MI} {X : AX} {σ τ : AS} {Ψ : AS → Prop} (h : step1 M X σ = some τ) (k : Rch M X τ Ψ) : Rch M X σ Ψ :=
  fun ok p l e R s m args below meth c D xa A am0 n0 Q cx f => step1_sat ok cx h (k ok p l e R s m args below meth c D xa A am0 n0 Q cx f)
theorem Rch.st {M : MI} {X : AX} {Ψ : AS → Prop} (n : Nat) : ∀ {σ τ : AS}, stepN M X n σ = some τ → Rch M X τ Ψ → Rch M X σ Ψ := by
  induction n with
  | zero => intro σ τ h k; cases h; exact k
  | succ n ih =>
    intro σ τ h k
    unfold stepN at h
    split at h
    · next ρ hρ => exact Rch.st1 hρ (ih h k)
    · cases h
end
section
/-! ===== contracts of the small machine, and calls ===== -/
theorem ao_moved {u U : State} (hvm : u.vm.Alike U.vm) (h : (Cond.arrayOver (.array .int)).before #[] u = true) : (Cond.arrayOver (.array .int)).before #[] U = true := by
  unfold Cond.before Cond.holds at h ⊢
  simp only [Cond.value] at h ⊢
  rw [hvm.findClass]
  cases hc : u.vm.findClass (FieldType.array FieldType.int).toString with
  | none => rw [hc] at h; simp at h
  | some comp =>
    rw [hc] at h
    simp only [Option.bind_some, beq_iff_eq, Option.bind_eq_some_iff, Option.map_eq_some_iff] at h
    obtain ⟨c, h2, k, hk, h3⟩ := h
    split at h3
    · next comp2 ty hkind =>
      simp only [Bool.and_eq_true, decide_eq_true_eq] at h3
      obtain ⟨rfl, h4⟩ := h3
      obtain ⟨k', hk', he⟩ := hvm.2.2 _ _ hk
      have hi : (U.vm.classes.findIdx? fun (x : Class) => match x.kind with | .array component _ => component == comp | _ => false) = some c := by
        have e1 := va_idx_bare U.vm comp
        have e2 := va_idx_bare u.vm comp
        have e3 : U.vm.bare = u.vm.bare := by first | exact hvm.bare_eq | exact hvm.bare_eq.symm
        rw [e3] at e1
        exact e1.symm.trans (e2.trans h2)
      have hkind' : k'.kind = .array comp2 (.array .int) := by rw [he]; exact hkind
      have f2 : U.vm.findClass ("[" ++ (FieldType.array FieldType.int).toString) = some c := by rw [hvm.findClass]; exact h4
      rw [Option.bind_some]
      refine (congrArg (fun o : Option Nat => (o.bind (fun c => (U.vm.classes[c]?).map fun (k : Class) => match k.kind with | .array _ ty => decide (ty = FieldType.array .int) && decide (U.vm.findClass ("[" ++ (FieldType.array .int).toString) = some c) | _ => false)) == some true) hi).trans ?_
      simp [hk', hkind', f2]
    · cases h3
def argL : Nat → List Value → AL
  | _, [] => []
  | i, v :: t => (i, v) :: argL (i + 1) t
def retAt (M : MI) (pc : Nat) (st : List Value) (rv : Option Value) : Prop := ((mk M pc).1 = .ireturn ∧ ∃ v ty, st = [.int v] ∧ rv = some (.int v) ∧ mr M = some ty ∧ narrow ty (.int v) = .int v) ∨ ((mk M pc).1 = .return_ ∧ st = [] ∧ rv = none ∧ mr M = none)
def RetP (M : MI) (Φ : Option Value → AH → Prop) (τ : AS) : Prop := τ.2.2.2.2.1 ≤ mC M ∧ τ.2.2.2.2.2 ≤ mS M ∧ ∃ rv, retAt M τ.1 τ.2.2.1 rv ∧ Φ rv τ.2.2.2.1
/-- the method, called with these arguments over this heap, returns, and answer and heap are Φ -/
def Ct (M : MI) (X : AX) (args : List Value) (h : AH) (Φ : Option Value → AH → Prop) : Prop := MOk M ∧ Rch M X (0, argL 0 args, [], h, 0, 0) (RetP M Φ)
def wm (M : MI) : List Cond := .code (my M) (mb M) (mL M) (mr M) :: gw
def rmM (M : MI) : Room := { frames := mF M, cells := mC M, slots := mS M, locals := mW M }
def PcU (X : AX) (D : va_G) (xa am : Nat → Nat) (h : AH) (ws : va_W) (sz : Nat) (U : State) : Prop :=
  U.heap.size = sz ∧ HOk D U (fun _ => True) am xa h U.heap ws ∧ va_K D vwCl [] U ∧ (∀ w ∈ nw, va_Nw w U) ∧ (Cond.arrayOver (.array .int)).before #[] U = true ∧ (∀ k, k < 7 → va_Z "BargeBallast" (stN k) "[I" (.ref (xa k)) (va_A ws sz) U U.heap) ∧ (∀ k n f, X k = some (n, f) → va_T .int (xa k) n (fun j => .int (f j)) (va_A ws sz) U U.heap)
def QcO (D : va_G) (xa am : Nat → Nat) (h : AH) (ws : va_W) (sz : Nat) (Φ : Option Value → AH → Prop) : Array Value → State → Outcome → State → Prop := fun _ st o t =>
  (∃ (rv : Option Value) (h' : AH) (am' : Nat → Nat) (ws' : va_W), o = .returned (rv.map (cv am' xa)) ∧ Φ rv h' ∧ (∀ k, (k < h.length ∨ h'.length ≤ k) → am' k = am k) ∧ h.length ≤ h'.length ∧ HOk D t (va_A ws sz) am' xa h' t.heap ws') ∧ va_F (va_A ws sz) st t
theorem aT.moved {u U : State} (hvm : u.vm.Alike U.vm) {cA : ClassId} {ty : FieldType} (h : aT u cA ty) : aT U cA ty := ⟨arrOfT_moved hvm h.1, h.2.moved hvm⟩
theorem co_moved {u U : State} (hvm : u.vm.Alike U.vm) {am xa : Nat → Nat} {o : AO} {e : va_E} (h : co u am xa o e) : co U am xa o e := by
  match o, h with
  | .inl (ty, n, f), ⟨cA, h1, h2⟩ => exact ⟨cA, h1, h2.moved hvm⟩
  | .inr (.inl (n, g)), ⟨cA, h1, h2⟩ => exact ⟨cA, h1, h2.moved hvm⟩
  | .inr (.inr (ci, fs)), h => exact h
theorem HOk.moved {D : va_G} {u U : State} (hvm : u.vm.Alike U.vm) {A : Nat → Prop} {am xa : Nat → Nat} {h : AH} {H : Heap} {ws : va_W} (hH : HOk D u A am xa h H ws) : HOk D U A am xa h H ws := by
  obtain ⟨h1, h2, h3, h4, h5⟩ := hH
  refine ⟨h1, h2, h3, h4, fun k o hk => ?_⟩
  obtain ⟨e, e1, e2⟩ := h5 k o hk
  exact ⟨e, e1, co_moved hvm e2⟩
theorem HOk.weak {D : va_G} {u : State} {A B : Nat → Prop} {am xa : Nat → Nat} {h : AH} {H : Heap} {ws : va_W} (hH : HOk D u A am xa h H ws) (hAB : ∀ (k : Nat) (q : Nat × va_E), ws[k]? = some q → A q.1 → B q.1) : HOk D u B am xa h H ws := by
  obtain ⟨h1, h2, h3, h4, h5⟩ := hH
  exact ⟨h1, h2.weaken (fun k q hk hA => hAB k q hk hA), h3, h4, h5⟩
theorem nw_moved {s U : State} (hW : s.WarmedH U.vm) (h : ∀ w ∈ nw, va_Nw w s) : ∀ w ∈ nw, va_Nw w U := by
  intro w hw
  have hs := h w hw
  simp only [nw, List.mem_cons, List.not_mem_nil, or_false] at hw
  rcases hw with rfl | rfl | rfl | rfl | rfl | rfl | rfl | rfl | rfl
  all_goals first | exact va_Nw.warmF hW hs | exact va_Nw.warmM hW hs
theorem argL_eq {am xa : Nat → Nat} : ∀ (vs : List Value) (i : Nat), (∀ v ∈ vs, v.category = 1) → lv_args i (vs.map (cv am xa)) = lc am xa (argL i vs)
  | [], _, _ => rfl
  | v :: t, i, h => by
    have h1 : ¬ v.category = 2 := by have := h v List.mem_cons_self; omega
    simp only [List.map_cons, lv_args, argL, lc, cv_cat, h1, if_false]
    exact congrArg _ (argL_eq t (i + 1) (fun v hv => h v (List.mem_cons_of_mem _ hv)))
theorem argL_fst : ∀ (vs : List Value) (i : Nat), (∀ q ∈ argL i vs, i ≤ q.1) ∧ ((argL i vs).map Prod.fst).Nodup
  | [], _ => ⟨(fun _ h => by cases h), List.nodup_nil⟩
  | v :: t, i => by
    obtain ⟨h1, h2⟩ := argL_fst t (i + 1)
    refine ⟨fun q hq => ?_, ?_⟩
    · rcases List.mem_cons.mp hq with e | e
      · rw [e]; exact Nat.le_refl _
      · have := h1 q e; omega
    · simp only [argL, List.map_cons, List.nodup_cons]
      refine ⟨fun hm => ?_, h2⟩
      obtain ⟨q, hq, e⟩ := List.mem_map.mp hm
      have := h1 q hq
      omega
theorem argL_cat : ∀ (vs : List Value) (i : Nat), (∀ v ∈ vs, v.category = 1) → ∀ q ∈ argL i vs, q.2.category = 1
  | [], _, _, _, h => by cases h
  | v :: t, i, h, q, hq => by
    rcases List.mem_cons.mp hq with e | e
    · rw [e]; exact h v List.mem_cons_self
    · exact argL_cat t (i + 1) (fun v hv => h v (List.mem_cons_of_mem _ hv)) q e
theorem lg_sl_len (vs : List Value) (h : ∀ v ∈ vs, v.category = 1) : (lg_sl vs).length = vs.length := by
  induction vs with
  | nil => rfl
  | cons v t ih =>
    have h1 : ¬ v.category = 2 := by have := h v List.mem_cons_self; omega
    have := ih (fun v hv => h v (List.mem_cons_of_mem _ hv))
    simp only [lg_sl, List.flatMap_cons, h1, if_false, List.length_append, List.length_cons, List.length_nil] at this ⊢
    unfold lg_sl at *
    omega
theorem cat_map {am xa : Nat → Nat} {vs : List Value} (h : ∀ v ∈ vs, v.category = 1) : ∀ v ∈ vs.map (cv am xa), v.category = 1 := by
  intro v hv
  obtain ⟨w, hw, rfl⟩ := List.mem_map.mp hv
  rw [cv_cat]; exact h w hw
set_option maxHeartbeats 1000000 in
theorem met_of {M : MI} {X : AX} {av : List Value} {h : AH} {Φ : Option Value → AH → Prop} (hC : Ct M X av h Φ) (hcat : ∀ v ∈ av, v.category = 1) (hlen : av.length ≤ mL M) (hy : plainName (my M).cls = true) (l : Launch) (D : va_G) (xa am : Nat → Nat) (ws : va_W) (sz : Nat) :
    Met l (my M) (wm M) (rmM M) (va_Pc (av.map (cv am xa)) (PcU X D xa am h ws sz)) (QcO D xa am h ws sz Φ) (mC M) (mS M) (va_A ws sz) := by
  refine Met.ofW (cc := mb M) (maxL := mL M) (ret := mr M) hy rfl ?_
  intro p e s m args below meth c s₁ B hml hv
  obtain ⟨rfl, hsz, hH, hK, hnw, hov, hZ, hT⟩ := hv
  subst hsz
  have hts : ∀ w ∈ gw, w.before (av.map (cv am xa)).toArray s = true := fun w hw => atoms_spec (ws := wm M) B.pre w (List.mem_cons_of_mem _ hw)
  have hown : s.vm.findClass (mo M) = some m.cls := findClass_of_methodNamed B.named
  have hA : ∀ q : Nat, s.heap.size ≤ q → va_A ws s.heap.size q := fun q hq => Or.inr hq
  have hin : (my M).name = "<init>" → meth.name = "<init>" := fun h9 => (name_of_methodNamed B.named B.method).1.trans h9
  have hlocks := B.notSynchronized
  have cx : CxOk M X p (headSpec (wm M) (rmM M)).room s m (av.map (cv am xa)).toArray meth c D xa (va_A ws s.heap.size) :=
    ⟨B.exec, B.bytes, hml, hts, hnw, hov, hown, hin, hA, hK, hZ, hT, Nat.le_refl _, Nat.le_refl _, Nat.le_refl _, Nat.le_refl _, hlocks⟩
  have hl := lv_entry (av.map (cv am xa)) (n := mL M) (by rw [lg_sl_len _ (cat_map hcat), List.length_map]; exact hlen)
  rw [argL_eq av 0 hcat] at hl
  rw [lg_entry_eq]
  refine hC.2 hC.1 p l e _ s m _ below meth c D xa (va_A ws s.heap.size) am h.length (MQ below (QcO D xa am h ws s.heap.size Φ) (av.map (cv am xa)).toArray s (mC M) (mS M) (va_A ws s.heap.size)) cx ?_ am s.heap [] ws _ (Nat.le_refl _) (fun _ _ => rfl) (hH.weak (fun k q hk _ => Or.inl ⟨k, q.2, hk⟩)) va_S.rf hl ⟨(argL_fst av 0).2, argL_cat av 0 hcat⟩
  rintro ⟨pc, ls, st, h', cc, cs⟩ ⟨hc1, hc2, rv, hret, hΦ⟩
  intro am' H locs ws' lsC hn0 ham hH' hS hl' hg
  dsimp only at hc1 hc2 hn0 ham hH' hl' hg hret hΦ ⊢
  refine W.widen hc1 hc2 ?_
  have fin : ∀ t : State, t.heap = H → s.WarmedH t.vm → QcO D xa am h ws s.heap.size Φ (av.map (cv am xa)).toArray s (.returned (rv.map (cv am' xa))) t := fun t ht hW =>
    ⟨⟨rv, h', am', ws', rfl, hΦ, ham, hn0, by rw [ht]; exact hH'.moved hW.alike⟩, hS.F ht⟩
  rcases hret with ⟨hi, v, ty, rfl, rfl, hr, hn⟩ | ⟨hi, rfl, rfl, hr⟩
  · generalize hq : mk M pc = q at hi
    obtain ⟨i, len, nx, v9, a, b⟩ := q
    dsimp only at hi
    subst hi
    obtain ⟨d, -, -⟩ := ok_at hC.1 hq (by simp [ilen])
    exact W.zret B.exec B.bytes (B.returns.trans hr) hn fin hS.2.2 d
  · generalize hq : mk M pc = q at hi
    obtain ⟨i, len, nx, v9, a, b⟩ := q
    dsimp only at hi
    subst hi
    obtain ⟨d, -, -⟩ := ok_at hC.1 hq (by simp [ilen])
    exact W.vret B.exec B.bytes (B.returns.trans hr) fin hS.2.2 d
theorem blind {X : AX} {D : va_G} {xa am : Nat → Nat} {h : AH} {ws : va_W} {sz : Nat} {av : List Value} : FrameBlind (va_Pc av (PcU X D xa am h ws sz)) := by
  intro a U g mk ⟨q0, q1, q2, q3, q4, q5, q6, q7⟩
  have hvm : U.vm.Alike (U.calling g mk a).vm := Vm.Alike.refl U.vm
  refine ⟨q0, q1, q2.moved hvm, va_K.moved hvm q3, fun w hw => ?_, ao_moved hvm q5, fun k hk => va_Z.moved hvm (q6 k hk), fun k n f hX => va_T.moved hvm (q7 k n f hX)⟩
  have hs := q4 w hw
  simp only [nw, List.mem_cons, List.not_mem_nil, or_false] at hw
  rcases hw with rfl | rfl | rfl | rfl | rfl | rfl | rfl | rfl | rfl
  all_goals exact va_Nw.same rfl (rfl : U.vm = (U.calling g mk a).vm) hs
end
section
def okM (M : MI) : Bool := okw (.code (my M) (mb M) (mL M) (mr M)) && (okw (.initialized (my M).cls) && (decide ((my M).cls ≠ "java/lang/invoke/MethodHandle") && (decide ((my M).cls ≠ "java/lang/invoke/VarHandle") && plainName (my M).cls)))
def okD (y : MethodName) (n : Nat) : Bool := decide ((parseMethodDescriptor y.desc).map (fun d => d.parameters.length) = some n)
def okV (own : String) (idx : Nat) (M : MI) (n : Nat) : Bool := okw (.methodLink own idx (my M)) && (okw (.instanceMethod (my M)) && (okw (.selects (my M).cls (my M) (my M)) && okD (my M) n))
def okSt (own : String) (idx : Nat) (M : MI) (n : Nat) : Bool := okw (.methodLink own idx (my M)) && (okw (.static (my M)) && okD (my M) n)
def okIn (own : String) (idx : Nat) (M : MI) (n : Nat) : Bool := okw (.methodLink own idx (my M)) && (okw (.instanceMethod (my M)) && (decide ((my M).name = "<init>") && (decide (mr M = none) && okD (my M) n)))
def okSN (own : String) (idx : Nat) (M : MI) (n : Nat) : Bool := decide (Cond.methodLinkNest own idx (my M) "BargeBallast" ∈ nw) && (okw (.static (my M)) && okD (my M) n)
def okIN (own : String) (idx : Nat) (M : MI) (n : Nat) : Bool := decide (Cond.methodLinkNest own idx (my M) "BargeBallast" ∈ nw) && (okw (.instanceMethod (my M)) && (decide ((my M).name = "<init>") && (decide (mr M = none) && okD (my M) n)))
/-- the caller has room for the callee -/
def okR (M M' : MI) : Bool := Nat.ble (mF M' + 1) (mF M) && Nat.ble (8 + (mL M' + 11) + mW M') (mW M)
def catOk (rest : List Value) : Bool := Nat.ble ((rest.map fun v => v.category).sum) 8
def cat1 (vs : List Value) : Bool := vs.all fun v => Nat.beq v.category 1
theorem cat1_of {vs : List Value} (h : cat1 vs = true) : ∀ v ∈ vs, v.category = 1 := fun v hv => Nat.eq_of_beq_eq_true (List.all_eq_true.mp h v hv)
theorem okD_of {y : MethodName} {n : Nat} (h : okD y n = true) : ∀ sig, parseMethodDescriptor y.desc = some sig → n = sig.parameters.length := by
  intro sig hs
  unfold okD at h
  simp only [decide_eq_true_eq] at h
  rw [hs] at h
  exact (Option.some.inj h).symm
section CALL
variable {M M' : MI} {X X' : AX} {p : Program} {l : Launch} {e : Env} {R : Room} {s : State} {m : MethodId} {args : Array Value} {below : List Frame} {meth : Method} {c : Code} {D : va_G} {xa : Nat → Nat} {A : Nat → Prop} {am0 : Nat → Nat} {n0 : Nat} {Q : State → Prop}
theorem pcU_of (cx : CxOk M X p R s m args meth c D xa A) (hX : ∀ k n f, X' k = some (n, f) → X k = some (n, f)) {am : Nat → Nat} {h : AH} {H : Heap} {locs : List Loc} {ws : va_W} (hH : HOk D s A am xa h H ws) (hS : va_S A s.heap H locs) {U : State} (hU : U.heap = H) (hW : s.WarmedH U.vm) : PcU X' D xa am h ws H.size U := by
  obtain ⟨hx, hb, hml, hts, hnw, hov, hown, hini, hA, hK, hZ, hT, -⟩ := cx
  have sub : ∀ q, va_A ws H.size q → A q := by
    intro q hq
    rcases hq with ⟨k, e1, hk⟩ | hq
    · exact hH.2.1.2 k (q, e1) hk
    · exact hA q (Nat.le_trans hS.1 hq)
  refine ⟨by rw [hU], ?_, va_K.moved hW.alike hK, nw_moved hW hnw, ao_moved hW.alike hov, fun k hk => ?_, fun k n f hk => ?_⟩
  · rw [hU]; exact (hH.moved hW.alike).weak fun _ _ _ _ => trivial
  · rw [hU]; exact (va_Z.moved hW.alike ((hZ k hk).kept hS.2.1)).narrow sub
  · rw [hU]; exact (va_T.moved hW.alike ((hT k n f (hX k n f hk)).kept hS.2.1)).narrow sub
theorem call_W (cx : CxOk M X p R s m args meth c D xa A) {am : Nat → Nat} {h : AH} {H : Heap} {locs : List Loc} {ws : va_W} (hH : HOk D s A am xa h H ws) (hS : va_S A s.heap H locs) {cc cs mc ms pc : Nat} {lsC : Array Slot} {st0 rest : List Value} {Φ : Option Value → AH → Prop} {a : Array Value}
    (hr : va_Run p l e R s m args below meth c H locs cc cs mc ms (F0 m pc lsC st0) rest (QcO D xa am h ws H.size Φ a) (va_A ws H.size))
    (kk : ∀ (rv : Option Value) (h' : AH) (am' : Nat → Nat) (H' : Heap) (locs' : List Loc) (ws' : va_W), Φ rv h' → (∀ k, (k < h.length ∨ h'.length ≤ k) → am' k = am k) → h.length ≤ h'.length → HOk D s A am' xa h' H' ws' → va_S A s.heap H' locs' → W p l e R s m args below meth c H' locs' (cc + mc) (cs + ms) Q (F0 m (pc + 3) lsC ((rv.map (cv am' xa)).toList ++ rest))) :
    W p l e R s m args below meth c H locs cc cs Q (F0 m pc lsC st0) := by
  obtain ⟨hx, hb, hml, hts, hnw, hov, hown, hini, hA, hK, hZ, hT, -⟩ := cx
  have sub : ∀ q, va_A ws H.size q → A q := by
    intro q hq
    rcases hq with ⟨k, e1, hk⟩ | hq
    · exact hH.2.1.2 k (q, e1) hk
    · exact hA q (Nat.le_trans hS.1 hq)
  intro T hT0 X0
  obtain ⟨v, st₀, t, T', L, h0, X', hL, e1, e2, ⟨⟨rv, h', am', ws', ho, hΦ, ham, hle, hH'⟩, hz, hk⟩, st⟩ := hr T hT0 X0
  cases ho
  rw [h0] at hz hk
  have hal : s.vm.Alike t.vm := by rw [← e2]; exact X'.warmed.alike
  obtain ⟨t2, a1, b1⟩ := kk rv h' am' T'.heap (locs ++ L) ws' hΦ ham hle (by rw [e1]; exact (hH'.moved (Vm.Alike.symm hal)).weak (fun k q _ hq => sub _ hq))
    ⟨Nat.le_trans hS.1 (by rw [e1]; exact hz), fun q h1 h2 => by rw [e1, hk q (Nat.lt_of_lt_of_le h1 hS.1) (fun z => h2 (sub q z))]; exact hS.2.1 q h1 h2, fun q hq => by
      rcases List.mem_append.mp hq with h9 | h9
      · exact hS.2.2 q h9
      · exact sub _ (hL q h9)⟩ T' rfl X'
  exact ⟨t2, st t2 a1, b1⟩
theorem goodM (h : okM M' = true) : GoodIn gw (wm M') := by
  unfold okM at h
  simp only [Bool.and_eq_true] at h
  intro w hw
  rcases List.mem_cons.mp hw with rfl | hw
  · exact gw_good _ (okw_in h.1)
  · exact gw_good w hw
theorem callB_my (cx : CxOk M X p R s m args meth c D xa A) {idx n : Nat} (hM : okM M' = true) (hR : okR M M' = true) (hl : okw (.methodLink (mo M) idx (my M')) = true) (hd : okD (my M') n = true) :
    CallB R s args (mo M) idx (my M') (mb M') (mL M') (mr M') (wm M') (rmM M') (mC M') (mS M') n := by
  obtain ⟨hx, hb, hml, hts, hnw, hov, hown, hini, hA, hK, hZ, hT, f1, f2, f3, f4, hlk⟩ := cx
  have g := goodM hM
  unfold okM at hM
  unfold okR at hR
  simp only [Bool.and_eq_true, decide_eq_true_eq] at hM hR
  have r1 := Nat.le_of_ble_eq_true hR.1
  have r2 := Nat.le_of_ble_eq_true hR.2
  exact ⟨rfl, rfl, Nat.le_trans r1 f1, Nat.le_trans r2 f2, pay_in hts g, List.mem_cons_self, hts _ (okw_in hM.1), hts _ (okw_in hM.2.1), ⟨hM.2.2.1, hM.2.2.2.1⟩, okD_of hd, hts _ (okw_in hl)⟩
theorem callN_my (cx : CxOk M X p R s m args meth c D xa A) {idx n : Nat} (hM : okM M' = true) (hR : okR M M' = true) (hl : Cond.methodLinkNest (mo M) idx (my M') "BargeBallast" ∈ nw) (hd : okD (my M') n = true) :
    va_CN R s args (mo M) idx (my M') "BargeBallast" (mb M') (mL M') (mr M') (wm M') (rmM M') (mC M') (mS M') n := by
  obtain ⟨hx, hb, hml, hts, hnw, hov, hown, hini, hA, hK, hZ, hT, f1, f2, f3, f4, hlk⟩ := cx
  have g := goodM hM
  unfold okM at hM
  unfold okR at hR
  simp only [Bool.and_eq_true, decide_eq_true_eq] at hM hR
  have r1 := Nat.le_of_ble_eq_true hR.1
  have r2 := Nat.le_of_ble_eq_true hR.2
  exact ⟨⟨rfl, rfl, Nat.le_trans r1 f1, Nat.le_trans r2 f2, pay_in hts g, List.mem_cons_self⟩, hts _ (okw_in hM.1), hts _ (okw_in hM.2.1), ⟨hM.2.2.1, hM.2.2.2.1⟩, okD_of hd, va_Nw.use rfl (hnw _ hl)⟩
theorem cat_sum {am : Nat → Nat} {rest : List Value} (h : catOk rest = true) : ((rest.map (cv am xa)).map fun v => v.category).sum ≤ 8 := by
  rw [List.map_map]
  have e : ((fun v : Value => v.category) ∘ cv am xa) = fun v => v.category := by funext v; exact cv_cat am xa v
  rw [e]
  exact Nat.le_of_ble_eq_true h
/-- what a call's rule asks of the five kinds of call: 0 virtual, 1 static, 2 static across the nest, 3 a constructor, 4 a constructor across the nest -/
def okK (k : Nat) (own : String) (idx : Nat) (M' : MI) (n : Nat) : Bool := match k with
  | 0 => okV own idx M' n
  | 1 => okSt own idx M' n
  | 2 => okSN own idx M' n
  | 3 => okIn own idx M' n
  | _ => okIN own idx M' n
/-- the instruction of a kind of call -/
def insK (k : Nat) (idx : Nat) : Instr := match k with
  | 0 => .invokevirtual idx
  | 1 => .invokestatic idx
  | 2 => .invokestatic idx
  | _ => .invokespecial idx
/-- the stack ahead of a call, the receiver first among the arguments -/
def stK (k : Nat) (av rest : List Value) : List Value := av.reverse ++ rest
/-- a call's receiver is an object of the callee's class, or there is none -/
def rcv0 (M' : MI) (h : AH) (o : Nat) : Bool := match nth h o with
  | some (.inr (.inr (ci, _))) => match nth vwCl ci with
    | some (C, _, _) => decide (C = (my M').cls)
    | none => false
  | _ => false
def rcv (k : Nat) (M' : MI) (h : AH) (av : List Value) : Bool := match k with
  | 0 => match av with
    | .ref o :: _ => rcv0 M' h o
    | _ => false
  | 1 => true
  | 2 => true
  | _ => match av with
    | .ref o :: _ => Nat.ble (o + 1) 1000
    | _ => false
def nAr (k : Nat) (av : List Value) : Nat := match k with
  | 1 => av.length
  | 2 => av.length
  | _ => av.length - 1
set_option maxHeartbeats 2000000 in
theorem run_my (cx : CxOk M X p R s m args meth c D xa A) (hX : ∀ k n f, X' k = some (n, f) → X k = some (n, f)) {am : Nat → Nat} {h : AH} {H : Heap} {locs : List Loc} {ws : va_W} (hH : HOk D s A am xa h H ws) (hS : va_S A s.heap H locs) {cc cs pc k idx : Nat} {lsC : Array Slot} {av rest : List Value} {Φ : Option Value → AH → Prop}
    (hd : decode (mb M) pc = .ok (insK k idx, 3)) (hok : okK k (mo M) idx M' (nAr k av) = true) (hM : okM M' = true) (hR : okR M M' = true) (hC : Ct M' X' av h Φ) (hcat : cat1 av = true) (hlen : Nat.ble av.length (mL M') = true) (hrest : catOk rest = true) (hrcv : rcv k M' h av = true) (hsz : lsC.size = mL M) (hcc : cc + mC M' ≤ mC M) (hcs : cs + mS M' ≤ mS M) :
    ∃ a : Array Value, va_Run p l e R s m args below meth c H locs cc cs (mC M') (mS M') (F0 m pc lsC ((stK k av rest).map (cv am xa))) (rest.map (cv am xa)) (QcO D xa am h ws H.size Φ a) (va_A ws H.size) := by
  have hx := cx.1
  have hb := cx.2.1
  have hml := cx.2.2.1
  have hts := cx.2.2.2.1
  have hown := cx.2.2.2.2.2.2.1
  have hK := cx.2.2.2.2.2.2.2.2.2.1
  have f3 : mC M ≤ R.cells := cx.2.2.2.2.2.2.2.2.2.2.2.2.2.2.1
  have f4 : mS M ≤ R.slots := cx.2.2.2.2.2.2.2.2.2.2.2.2.2.2.2.1
  have hpl : plainName (my M').cls = true := by
    unfold okM at hM
    simp only [Bool.and_eq_true] at hM
    exact hM.2.2.2.2
  have met := met_of hC (cat1_of hcat) (Nat.le_of_ble_eq_true hlen) hpl l D xa am ws H.size
  have fix : CallFix p m c (mb M) (mL M) s args gw (mo M) := ⟨hx, hb, hml, hown, hts⟩
  have hroom := lv_room (m := m) (pc := pc) (ls := lsC) (rest := (stK k av rest).map (cv am xa)) (cat_sum (xa := xa) (am := am) hrest)
  have hf : cc + mC M' ≤ R.cells ∧ cs + mS M' ≤ R.slots := ⟨Nat.le_trans hcc f3, Nat.le_trans hcs f4⟩
  have pre : ∀ U : State, U.heap = H → s.WarmedH U.vm → va_Pc (av.map (cv am xa)) (PcU X' D xa am h ws H.size) (av.map (cv am xa)).toArray U := fun U hU hW => ⟨rfl, pcU_of cx hX hH hS hU hW⟩
  match k, hd, hok, hrcv with
  | 0, hd, hok, hrcv =>
    simp only [okK, okV, Bool.and_eq_true] at hok
    match av, hrcv with
    | .ref o :: t, hrcv =>
      have hrcv : rcv0 M' h o = true := hrcv
      unfold rcv0 at hrcv
      split at hrcv
      · next ci fs hnt =>
        split at hrcv
        · next C T N hcl =>
          simp only [decide_eq_true_eq] at hrcv
          obtain ⟨hk1, e1, he1, he2⟩ := hH.at hnt
          obtain rfl : e1 = _ := he2
          have rc := va_recv hK hH.1 (nth_some hcl) he1
          dsimp only at rc
          rw [hrcv] at rc
          refine ⟨_, va_runV (As := t.map (cv am xa)) (b := am o) fix met ⟨callB_my cx hM hR hok.1 hok.2.2.2, hts _ (okw_in hok.2.1), hts _ (okw_in hok.2.2.1)⟩ ⟨blind, rc, fun U hU hW => ?_⟩ rfl (by simp [nAr]) hsz ?_ hroom hd hf⟩
          · have := pre U hU hW
            rw [List.map_cons, cv_ref am hk1] at this
            exact ⟨by rw [List.map_cons, cv_ref am hk1], this.2⟩
          · show (stK 0 (.ref o :: t) rest).map (cv am xa) = _
            simp [stK, cv_ref am hk1]
        · cases hrcv
      · cases hrcv
  | 1, hd, hok, hrcv =>
    simp only [okK, okSt, Bool.and_eq_true] at hok
    exact ⟨_, va_runS (As := av.map (cv am xa)) fix met ⟨callB_my cx hM hR hok.1 hok.2.2, hts _ (okw_in hok.2.1)⟩ ⟨blind, pre⟩ rfl (by simp [nAr]) hsz (by simp [stK]) hroom hd hf⟩
  | 2, hd, hok, hrcv =>
    simp only [okK, okSN, Bool.and_eq_true, decide_eq_true_eq] at hok
    exact ⟨_, va_runSN (As := av.map (cv am xa)) fix met ⟨callN_my cx hM hR hok.1 hok.2.2, hts _ (okw_in hok.2.1), trivial⟩ ⟨blind, pre⟩ rfl (by simp [nAr]) hsz (by simp [stK]) hroom hd hf⟩
  | 3, hd, hok, hrcv =>
    simp only [okK, okIn, Bool.and_eq_true, decide_eq_true_eq] at hok
    unfold rcv at hrcv
    match av, hrcv with
    | .ref o :: t, hrcv =>
      have hk1 : o < 1000 := Nat.lt_of_succ_le (Nat.le_of_ble_eq_true hrcv)
      have cb := callB_my (X := X) cx hM hR hok.1 hok.2.2.2.2
      rw [hok.2.2.2.1] at cb
      refine ⟨_, va_runI (As := t.map (cv am xa)) (b := am o) fix met ⟨cb, hok.2.2.1, hts _ (okw_in hok.2.1)⟩ ⟨blind, fun U hU hW => ?_⟩ rfl (by simp [nAr]) hsz ?_ hroom hd hf⟩
      · have := pre U hU hW
        rw [List.map_cons, cv_ref am hk1] at this
        exact ⟨by rw [List.map_cons, cv_ref am hk1], this.2⟩
      · simp [stK, cv_ref am hk1]
  | k + 4, hd, hok, hrcv =>
    simp only [okK, okIN, Bool.and_eq_true, decide_eq_true_eq] at hok
    unfold rcv at hrcv
    match av, hrcv with
    | .ref o :: t, hrcv =>
      have hk1 : o < 1000 := Nat.lt_of_succ_le (Nat.le_of_ble_eq_true hrcv)
      have cb := callN_my (X := X) cx hM hR hok.1 hok.2.2.2.2
      rw [hok.2.2.2.1] at cb
      refine ⟨_, va_runIN (As := t.map (cv am xa)) (b := am o) fix met ⟨cb, hok.2.2.1, hts _ (okw_in hok.2.1)⟩ ⟨blind, fun U hU hW => ?_⟩ rfl (by simp [nAr]) hsz ?_ hroom hd hf⟩
      · have := pre U hU hW
        rw [List.map_cons, cv_ref am hk1] at this
        exact ⟨by rw [List.map_cons, cv_ref am hk1], this.2⟩
      · simp [stK, cv_ref am hk1]
end CALL
theorem insK_len (k idx : Nat) : ilen (insK k idx) = 3 := by
  match k with
  | 0 => rfl
  | 1 => rfl
  | 2 => rfl
  | k + 3 => rfl
/-- a call of a method that makes nothing -/
theorem Rch.call {M M' : MI} {X X' : AX} {Ψ : AS → Prop} {Φ : Option Value → AH → Prop} {pc idx len nx a b : Nat} {v : Int32} {ls : AL} {st av rest : List Value} {h : AH} {cc cs : Nat} (k : Nat)
    (hC : Ct M' X' av h Φ) (hm : mk M pc = (insK k idx, len, nx, v, a, b)) (hst : st = stK k av rest) (hok : okK k (mo M) idx M' (nAr k av) = true) (hM : okM M' = true) (hR : okR M M' = true) (hX : ∀ k n f, X' k = some (n, f) → X k = some (n, f))
    (hcat : cat1 av = true) (hlen : Nat.ble av.length (mL M') = true) (hrest : catOk rest = true) (hrcv : rcv k M' h av = true) (hz : mC M' = 0 ∧ mS M' = 0) (hcc : cc ≤ mC M ∧ cs ≤ mS M) (hN : ∀ rv h', Φ rv h' → h'.length = h.length)
    (kk : ∀ rv h', Φ rv h' → Rch M X (nx, ls, rv.toList ++ rest, h', cc, cs) Ψ) : Rch M X (pc, ls, st, h, cc, cs) Ψ := by
  intro ok p l e R s m args below meth c D xa A am0 n0 Q cx f am H locs ws lsC hn0 ham hH hS hl hg
  dsimp only at hn0 ham hH hl hg ⊢
  subst hst
  obtain ⟨d, hnx, -⟩ := ok_at ok hm (by rw [insK_len]; decide)
  rw [insK_len] at d hnx
  subst hnx
  obtain ⟨a9, hr⟩ := run_my (l := l) (e := e) (below := below) (cc := cc) (cs := cs) cx hX hH hS d hok hM hR hC hcat hlen hrest hrcv hl.1 (by omega) (by omega)
  refine call_W cx hH hS hr fun rv h' am' H' locs' ws' hΦ ham' hle hH' hS' => ?_
  have hlen' := hN rv h' hΦ
  have e1 : am' = am := by
    funext k9
    exact ham' k9 (by omega)
  subst e1
  rw [hz.1, hz.2]
  have g := kk rv h' hΦ ok p l e R s m args below meth c D xa A am0 n0 Q cx f am' H' locs' ws' lsC (by dsimp only; omega) (by dsimp only; rw [hlen']; exact ham) hH' hS' hl hg
  dsimp only at g
  rw [List.map_append] at g
  rw [Option.toList_map]
  exact g
def clV (n : Nat) (v : Value) : Bool := match v with
  | .ref k => Nat.ble (k + 1) n || Nat.ble 1000 k
  | _ => true
theorem cv_cl {am am' xa : Nat → Nat} {n : Nat} (h : ∀ k, k < n → am' k = am k) {v : Value} (hv : clV n v = true) : cv am' xa v = cv am xa v := by
  cases v with
  | ref k =>
    unfold clV at hv
    simp only [Bool.or_eq_true] at hv
    by_cases hk : k < 1000
    · rcases hv with z | z
      · have := Nat.le_of_ble_eq_true z
        simp [cv, hk, h k (by omega)]
      · exact absurd (Nat.le_of_ble_eq_true z) (Nat.not_le.mpr hk)
    · simp [cv, hk]
  | _ => rfl
theorem cv_cls {am am' xa : Nat → Nat} {n : Nat} (h : ∀ k, k < n → am' k = am k) {vs : List Value} (hv : vs.all (clV n) = true) : vs.map (cv am' xa) = vs.map (cv am xa) :=
  List.map_congr_left fun v hm => cv_cl h (List.all_eq_true.mp hv v hm)
theorem lc_cls {am am' xa : Nat → Nat} {n : Nat} (h : ∀ k, k < n → am' k = am k) {ls : AL} (hv : ls.all (fun q => clV n q.2) = true) : lc am' xa ls = lc am xa ls :=
  List.map_congr_left fun q hm => by rw [cv_cl h (List.all_eq_true.mp hv q hm)]
/-- a call of a method that makes cells -/
theorem Rch.callG {M M' : MI} {X X' : AX} {Ψ : AS → Prop} {Φ : Option Value → AH → Prop} {pc idx len nx a b : Nat} {v : Int32} {ls : AL} {st av rest : List Value} {h : AH} {cc cs cc' cs' : Nat} (k : Nat)
    (hC : Ct M' X' av h Φ) (hm : mk M pc = (insK k idx, len, nx, v, a, b)) (hst : st = stK k av rest) (hok : okK k (mo M) idx M' (nAr k av) = true) (hM : okM M' = true) (hR : okR M M' = true) (hX : ∀ k n f, X' k = some (n, f) → X k = some (n, f))
    (hcat : cat1 av = true) (hlen : Nat.ble av.length (mL M') = true) (hrest : catOk rest = true) (hrcv : rcv k M' h av = true) (hc' : cc' = cc + mC M') (hs' : cs' = cs + mS M') (hcc : cc' ≤ mC M) (hcs : cs' ≤ mS M) (hcl : rest.all (clV h.length) = true) (hcl2 : ls.all (fun q => clV h.length q.2) = true)
    (kk : ∀ rv h', Φ rv h' → Rch M X (nx, ls, rv.toList ++ rest, h', cc', cs') Ψ) : Rch M X (pc, ls, st, h, cc, cs) Ψ := by
  intro ok p l e R s m args below meth c D xa A am0 n0 Q cx f am H locs ws lsC hn0 ham hH hS hl hg
  dsimp only at hn0 ham hH hl hg ⊢
  subst hst
  subst hc'
  subst hs'
  obtain ⟨d, hnx, -⟩ := ok_at ok hm (by rw [insK_len]; decide)
  rw [insK_len] at d hnx
  subst hnx
  obtain ⟨a9, hr⟩ := run_my (l := l) (e := e) (below := below) (cc := cc) (cs := cs) cx hX hH hS d hok hM hR hC hcat hlen hrest hrcv hl.1 hcc hcs
  refine call_W cx hH hS hr fun rv h' am' H' locs' ws' hΦ ham' hle hH' hS' => ?_
  have hag : ∀ k, k < h.length → am' k = am k := fun k hk => ham' k (Or.inl hk)
  have g := kk rv h' hΦ ok p l e R s m args below meth c D xa A am0 n0 Q cx f am' H' locs' ws' lsC (by dsimp only; omega) (by
    dsimp only
    intro k hk
    rcases hk with hk | hk
    · rw [ham' k (Or.inl (by omega))]; exact ham k (Or.inl hk)
    · rw [ham' k (Or.inr hk)]; exact ham k (Or.inr (by omega))) hH' hS' (by dsimp only; rw [lc_cls hag hcl2]; exact hl) hg
  dsimp only at g
  rw [List.map_append, cv_cls hag hcl] at g
  rw [Option.toList_map]
  exact g
end
section
/-! ===== rules: branches, cells by a reckoned index, divisions, switches, what is made, what the JDK does ===== -/
theorem Rch.i_eq {M : MI} {X : AX} {Ψ : AS → Prop} {pc len nx a b : Nat} {v : Int32} {ls : AL} {r : List Value} {h : AH} {cc cs : Nat} {x y : Int32} {off : Int} (hm : mk M pc = (.if_icmp .eq off, len, nx, v, a, b)) (kt : x = y → Rch M X (a, ls, r, h, cc, cs) Ψ) (kf : ¬ x = y → Rch M X (nx, ls, r, h, cc, cs) Ψ) : Rch M X (pc, ls, .int y :: .int x :: r, h, cc, cs) Ψ := by
  by_cases z : x = y
  · exact Rch.st1 (by simp only [step1, hm, cmpB, z, decide_true, Bool.not_true]; rfl) (kt z)
  · exact Rch.st1 (by simp only [step1, hm, cmpB, z, decide_false, Bool.not_false]; rfl) (kf z)
theorem Rch.z_eq {M : MI} {X : AX} {Ψ : AS → Prop} {pc len nx a b : Nat} {v : Int32} {ls : AL} {r : List Value} {h : AH} {cc cs : Nat} {x : Int32} {off : Int} (hm : mk M pc = (.ifCond .eq off, len, nx, v, a, b)) (kt : x = 0 → Rch M X (a, ls, r, h, cc, cs) Ψ) (kf : ¬ x = 0 → Rch M X (nx, ls, r, h, cc, cs) Ψ) : Rch M X (pc, ls, .int x :: r, h, cc, cs) Ψ := by
  by_cases z : x = 0
  · exact Rch.st1 (by simp only [step1, hm, cmpB, z, decide_true, Bool.not_true]; rfl) (kt z)
  · exact Rch.st1 (by simp only [step1, hm, cmpB, z, decide_false, Bool.not_false]; rfl) (kf z)
theorem Rch.i_ne {M : MI} {X : AX} {Ψ : AS → Prop} {pc len nx a b : Nat} {v : Int32} {ls : AL} {r : List Value} {h : AH} {cc cs : Nat} {x y : Int32} {off : Int} (hm : mk M pc = (.if_icmp .ne off, len, nx, v, a, b)) (kt : x = y → Rch M X (nx, ls, r, h, cc, cs) Ψ) (kf : ¬ x = y → Rch M X (a, ls, r, h, cc, cs) Ψ) : Rch M X (pc, ls, .int y :: .int x :: r, h, cc, cs) Ψ := by
  by_cases z : x = y
  · exact Rch.st1 (by simp only [step1, hm, cmpB, z, decide_true, Bool.not_true]; rfl) (kt z)
  · exact Rch.st1 (by simp only [step1, hm, cmpB, z, decide_false, Bool.not_false]; rfl) (kf z)
theorem Rch.z_ne {M : MI} {X : AX} {Ψ : AS → Prop} {pc len nx a b : Nat} {v : Int32} {ls : AL} {r : List Value} {h : AH} {cc cs : Nat} {x : Int32} {off : Int} (hm : mk M pc = (.ifCond .ne off, len, nx, v, a, b)) (kt : x = 0 → Rch M X (nx, ls, r, h, cc, cs) Ψ) (kf : ¬ x = 0 → Rch M X (a, ls, r, h, cc, cs) Ψ) : Rch M X (pc, ls, .int x :: r, h, cc, cs) Ψ := by
  by_cases z : x = 0
  · exact Rch.st1 (by simp only [step1, hm, cmpB, z, decide_true, Bool.not_true]; rfl) (kt z)
  · exact Rch.st1 (by simp only [step1, hm, cmpB, z, decide_false, Bool.not_false]; rfl) (kf z)
theorem Rch.i_lt {M : MI} {X : AX} {Ψ : AS → Prop} {pc len nx a b : Nat} {v : Int32} {ls : AL} {r : List Value} {h : AH} {cc cs : Nat} {x y : Int32} {off : Int} (hm : mk M pc = (.if_icmp .lt off, len, nx, v, a, b)) (kt : x < y → Rch M X (a, ls, r, h, cc, cs) Ψ) (kf : ¬ x < y → Rch M X (nx, ls, r, h, cc, cs) Ψ) : Rch M X (pc, ls, .int y :: .int x :: r, h, cc, cs) Ψ := by
  by_cases z : x < y
  · exact Rch.st1 (by simp only [step1, hm, cmpB, z, decide_true, Bool.not_true]; rfl) (kt z)
  · exact Rch.st1 (by simp only [step1, hm, cmpB, z, decide_false, Bool.not_false]; rfl) (kf z)
theorem Rch.z_lt {M : MI} {X : AX} {Ψ : AS → Prop} {pc len nx a b : Nat} {v : Int32} {ls : AL} {r : List Value} {h : AH} {cc cs : Nat} {x : Int32} {off : Int} (hm : mk M pc = (.ifCond .lt off, len, nx, v, a, b)) (kt : x < 0 → Rch M X (a, ls, r, h, cc, cs) Ψ) (kf : ¬ x < 0 → Rch M X (nx, ls, r, h, cc, cs) Ψ) : Rch M X (pc, ls, .int x :: r, h, cc, cs) Ψ := by
  by_cases z : x < 0
  · exact Rch.st1 (by simp only [step1, hm, cmpB, z, decide_true, Bool.not_true]; rfl) (kt z)
  · exact Rch.st1 (by simp only [step1, hm, cmpB, z, decide_false, Bool.not_false]; rfl) (kf z)
theorem Rch.i_ge {M : MI} {X : AX} {Ψ : AS → Prop} {pc len nx a b : Nat} {v : Int32} {ls : AL} {r : List Value} {h : AH} {cc cs : Nat} {x y : Int32} {off : Int} (hm : mk M pc = (.if_icmp .ge off, len, nx, v, a, b)) (kt : y ≤ x → Rch M X (a, ls, r, h, cc, cs) Ψ) (kf : ¬ y ≤ x → Rch M X (nx, ls, r, h, cc, cs) Ψ) : Rch M X (pc, ls, .int y :: .int x :: r, h, cc, cs) Ψ := by
  by_cases z : y ≤ x
  · exact Rch.st1 (by simp only [step1, hm, cmpB, z, decide_true, Bool.not_true]; rfl) (kt z)
  · exact Rch.st1 (by simp only [step1, hm, cmpB, z, decide_false, Bool.not_false]; rfl) (kf z)
theorem Rch.z_ge {M : MI} {X : AX} {Ψ : AS → Prop} {pc len nx a b : Nat} {v : Int32} {ls : AL} {r : List Value} {h : AH} {cc cs : Nat} {x : Int32} {off : Int} (hm : mk M pc = (.ifCond .ge off, len, nx, v, a, b)) (kt : 0 ≤ x → Rch M X (a, ls, r, h, cc, cs) Ψ) (kf : ¬ 0 ≤ x → Rch M X (nx, ls, r, h, cc, cs) Ψ) : Rch M X (pc, ls, .int x :: r, h, cc, cs) Ψ := by
  by_cases z : 0 ≤ x
  · exact Rch.st1 (by simp only [step1, hm, cmpB, z, decide_true, Bool.not_true]; rfl) (kt z)
  · exact Rch.st1 (by simp only [step1, hm, cmpB, z, decide_false, Bool.not_false]; rfl) (kf z)
theorem Rch.i_gt {M : MI} {X : AX} {Ψ : AS → Prop} {pc len nx a b : Nat} {v : Int32} {ls : AL} {r : List Value} {h : AH} {cc cs : Nat} {x y : Int32} {off : Int} (hm : mk M pc = (.if_icmp .gt off, len, nx, v, a, b)) (kt : y < x → Rch M X (a, ls, r, h, cc, cs) Ψ) (kf : ¬ y < x → Rch M X (nx, ls, r, h, cc, cs) Ψ) : Rch M X (pc, ls, .int y :: .int x :: r, h, cc, cs) Ψ := by
  by_cases z : y < x
  · exact Rch.st1 (by simp only [step1, hm, cmpB, z, decide_true, Bool.not_true]; rfl) (kt z)
  · exact Rch.st1 (by simp only [step1, hm, cmpB, z, decide_false, Bool.not_false]; rfl) (kf z)
theorem Rch.z_gt {M : MI} {X : AX} {Ψ : AS → Prop} {pc len nx a b : Nat} {v : Int32} {ls : AL} {r : List Value} {h : AH} {cc cs : Nat} {x : Int32} {off : Int} (hm : mk M pc = (.ifCond .gt off, len, nx, v, a, b)) (kt : 0 < x → Rch M X (a, ls, r, h, cc, cs) Ψ) (kf : ¬ 0 < x → Rch M X (nx, ls, r, h, cc, cs) Ψ) : Rch M X (pc, ls, .int x :: r, h, cc, cs) Ψ := by
  by_cases z : 0 < x
  · exact Rch.st1 (by simp only [step1, hm, cmpB, z, decide_true, Bool.not_true]; rfl) (kt z)
  · exact Rch.st1 (by simp only [step1, hm, cmpB, z, decide_false, Bool.not_false]; rfl) (kf z)
theorem Rch.i_le {M : MI} {X : AX} {Ψ : AS → Prop} {pc len nx a b : Nat} {v : Int32} {ls : AL} {r : List Value} {h : AH} {cc cs : Nat} {x y : Int32} {off : Int} (hm : mk M pc = (.if_icmp .le off, len, nx, v, a, b)) (kt : x ≤ y → Rch M X (a, ls, r, h, cc, cs) Ψ) (kf : ¬ x ≤ y → Rch M X (nx, ls, r, h, cc, cs) Ψ) : Rch M X (pc, ls, .int y :: .int x :: r, h, cc, cs) Ψ := by
  by_cases z : x ≤ y
  · exact Rch.st1 (by simp only [step1, hm, cmpB, z, decide_true, Bool.not_true]; rfl) (kt z)
  · exact Rch.st1 (by simp only [step1, hm, cmpB, z, decide_false, Bool.not_false]; rfl) (kf z)
theorem Rch.z_le {M : MI} {X : AX} {Ψ : AS → Prop} {pc len nx a b : Nat} {v : Int32} {ls : AL} {r : List Value} {h : AH} {cc cs : Nat} {x : Int32} {off : Int} (hm : mk M pc = (.ifCond .le off, len, nx, v, a, b)) (kt : x ≤ 0 → Rch M X (a, ls, r, h, cc, cs) Ψ) (kf : ¬ x ≤ 0 → Rch M X (nx, ls, r, h, cc, cs) Ψ) : Rch M X (pc, ls, .int x :: r, h, cc, cs) Ψ := by
  by_cases z : x ≤ 0
  · exact Rch.st1 (by simp only [step1, hm, cmpB, z, decide_true, Bool.not_true]; rfl) (kt z)
  · exact Rch.st1 (by simp only [step1, hm, cmpB, z, decide_false, Bool.not_false]; rfl) (kf z)
theorem clamp_nI {j : Nat} (h : j < 2 ^ 31) : (nI j).toNatClampNeg = j := Int32.toNatClampNeg_ofNat_of_lt h
theorem nI_nn {j : Nat} (h : j < 2 ^ 31) : ¬ nI j < 0 := by
  have e1 := Int32.toInt_ofNat_small h
  simp only [nI, Int32.lt_iff_toInt_lt, Int32.toInt_zero, e1]
  omega
theorem inB_nI {j n : Nat} (h : j < n) (hn : n < 2 ^ 31) : inB (nI j) n = true := by
  unfold inB
  rw [clamp_nI (by omega)]
  simp only [nI_nn (show j < 2 ^ 31 by omega), decide_false, Bool.not_false, Bool.true_and]
  exact Nat.ble_eq_true_of_le h
theorem Rch.ia {M : MI} {X : AX} {Ψ : AS → Prop} {pc len nx a b : Nat} {v : Int32} {ls : AL} {r : List Value} {h : AH} {cc cs : Nat} {o n j : Nat} {f : Nat → Int32} {i : Int32} (hm : mk M pc = (.iaload, len, nx, v, a, b)) (ho : nth h o = some (.inl (.int, n, f))) (ho2 : Nat.ble 1000 o = false) (hi : i = nI j) (hj : j < n) (hn : n < 2 ^ 31) (k : Rch M X (nx, ls, .int (f j) :: r, h, cc, cs) Ψ) : Rch M X (pc, ls, .int i :: .ref o :: r, h, cc, cs) Ψ := by
  subst hi
  refine Rch.st1 ?_ k
  simp only [step1, hm, ho, ho2, cond_false, inB_nI hj hn, cond_true, clamp_nI (show j < 2 ^ 31 by omega)]
theorem Rch.xa {M : MI} {X : AX} {Ψ : AS → Prop} {pc len nx a b : Nat} {v : Int32} {ls : AL} {r : List Value} {h : AH} {cc cs : Nat} {o n j : Nat} {f : Nat → Int32} {i : Int32} (hm : mk M pc = (.iaload, len, nx, v, a, b)) (ho2 : Nat.ble 1000 o = true) (ho : X (o - 1000) = some (n, f)) (hi : i = nI j) (hj : j < n) (hn : n < 2 ^ 31) (k : Rch M X (nx, ls, .int (f j) :: r, h, cc, cs) Ψ) : Rch M X (pc, ls, .int i :: .ref o :: r, h, cc, cs) Ψ := by
  subst hi
  refine Rch.st1 ?_ k
  simp only [step1, hm, ho, ho2, cond_true, inB_nI hj hn, clamp_nI (show j < 2 ^ 31 by omega)]
theorem Rch.ca {M : MI} {X : AX} {Ψ : AS → Prop} {pc len nx a b : Nat} {v : Int32} {ls : AL} {r : List Value} {h : AH} {cc cs : Nat} {o n j : Nat} {f : Nat → Int32} {i : Int32} (hm : mk M pc = (.caload, len, nx, v, a, b)) (ho : nth h o = some (.inl (.char, n, f))) (hi : i = nI j) (hj : j < n) (hn : n < 2 ^ 31) (k : Rch M X (nx, ls, .int (f j) :: r, h, cc, cs) Ψ) : Rch M X (pc, ls, .int i :: .ref o :: r, h, cc, cs) Ψ := by
  subst hi
  refine Rch.st1 ?_ k
  simp only [step1, hm, ho, inB_nI hj hn, cond_true, clamp_nI (show j < 2 ^ 31 by omega)]
theorem Rch.ias {M : MI} {X : AX} {Ψ : AS → Prop} {pc len nx a b : Nat} {v : Int32} {ls : AL} {r : List Value} {h : AH} {cc cs : Nat} {o n j : Nat} {f : Nat → Int32} {i x : Int32} (hm : mk M pc = (.iastore, len, nx, v, a, b)) (ho : nth h o = some (.inl (.int, n, f))) (hi : i = nI j) (hj : j < n) (hn : n < 2 ^ 31) (k : Rch M X (nx, ls, r, setN h o (.inl (.int, n, upd f j x)), cc, cs) Ψ) : Rch M X (pc, ls, .int x :: .int i :: .ref o :: r, h, cc, cs) Ψ := by
  subst hi
  refine Rch.st1 ?_ k
  simp only [step1, hm, ho, inB_nI hj hn, cond_true, clamp_nI (show j < 2 ^ 31 by omega)]
theorem Rch.cas {M : MI} {X : AX} {Ψ : AS → Prop} {pc len nx a b : Nat} {v : Int32} {ls : AL} {r : List Value} {h : AH} {cc cs : Nat} {o n j : Nat} {f : Nat → Int32} {i x : Int32} (hm : mk M pc = (.castore, len, nx, v, a, b)) (ho : nth h o = some (.inl (.char, n, f))) (hi : i = nI j) (hj : j < n) (hn : n < 2 ^ 31) (k : Rch M X (nx, ls, r, setN h o (.inl (.char, n, upd f j (vp_nar .char x))), cc, cs) Ψ) : Rch M X (pc, ls, .int x :: .int i :: .ref o :: r, h, cc, cs) Ψ := by
  subst hi
  refine Rch.st1 ?_ k
  simp only [step1, hm, ho, inB_nI hj hn, cond_true, clamp_nI (show j < 2 ^ 31 by omega)]
theorem Rch.div {M : MI} {X : AX} {Ψ : AS → Prop} {pc len nx a b : Nat} {v : Int32} {ls : AL} {r : List Value} {h : AH} {cc cs : Nat} {x y : Int32} (hm : mk M pc = (.idiv, len, nx, v, a, b)) (hy : ¬ y = 0) (k : Rch M X (nx, ls, .int (x / y) :: r, h, cc, cs) Ψ) : Rch M X (pc, ls, .int y :: .int x :: r, h, cc, cs) Ψ := by
  refine Rch.st1 ?_ k
  simp only [step1, hm, hy, decide_false, cond_false]
theorem Rch.wl {M : MI} {X : AX} {Ψ : AS → Prop} {pc : Nat} {ls ls' : AL} {st : List Value} {h : AH} {cc cs : Nat} (hs : ∀ q ∈ ls', q ∈ ls) (hn : (ls'.map Prod.fst).Nodup) (k : Rch M X (pc, ls', st, h, cc, cs) Ψ) : Rch M X (pc, ls, st, h, cc, cs) Ψ := by
  intro ok p l e R s m args below meth c D xa A am0 n0 Q cx f am H locs ws lsC hn0 ham hH hS hl hg
  refine k ok p l e R s m args below meth c D xa A am0 n0 Q cx f am H locs ws lsC hn0 ham hH hS ⟨hl.1, hl.2.1, fun q hq => ?_⟩ ⟨hn, fun q hq => hg.2 q (hs q hq)⟩
  obtain ⟨q0, hq0, rfl⟩ := List.mem_map.mp hq
  exact hl.2.2 _ (List.mem_map.mpr ⟨q0, hs q0 hq0, rfl⟩)
/-- where a switch goes -/
def swT (pc : Nat) (i : Instr) (x : Int32) : Option Int := match i with
  | .tableswitch d lo hi offs => if x.toInt < lo ∨ hi < x.toInt then some ((pc : Int) + d) else (offs[(x.toInt - lo).toNat]?).map fun o => (pc : Int) + o
  | .lookupswitch d ps => if (ps.toList.zip (ps.toList.drop 1)).all (fun (a, next) => a.1 < next.1) = true then some ((pc : Int) + Op.lookupswitch.offset ps.toList d x.toInt) else none
  | _ => none
theorem Rch.sw {M : MI} {X : AX} {Ψ : AS → Prop} {pc len nx a b : Nat} {v : Int32} {ls : AL} {r : List Value} {h : AH} {cc cs : Nat} {i : Instr} {x : Int32} {t : Nat} (hm : mk M pc = (i, len, nx, v, a, b)) (ht : swT pc i x = some (t : Int)) (k : Rch M X (t, ls, r, h, cc, cs) Ψ) : Rch M X (pc, ls, .int x :: r, h, cc, cs) Ψ := by
  intro ok p l e R s m args below meth c D xa A am0 n0 Q cx f am H locs ws lsC hn0 ham hH hS hl hg
  have g := k ok p l e R s m args below meth c D xa A am0 n0 Q cx f am H locs ws lsC hn0 ham hH hS hl hg
  dsimp only at g ⊢
  have hne : i ≠ .nop := fun e => by rw [e] at ht; cases ht
  obtain ⟨d, -⟩ := ok.at hm (nop_ne hne)
  dsimp only at d
  unfold swT at ht
  split at ht
  · next dd lo hi offs =>
    split at ht
    · next hc => exact lv_tableOut cx.1 cx.2.1 d hc (Option.some.inj ht) g
    · next hc =>
      have h1 : ¬ x.toInt < lo := fun z => hc (Or.inl z)
      have h2 : ¬ hi < x.toInt := fun z => hc (Or.inr z)
      cases ho : offs[(x.toInt - lo).toNat]? with
      | none => rw [ho] at ht; cases ht
      | some off =>
        rw [ho] at ht
        exact lv_tableIn cx.1 cx.2.1 d h1 h2 ho (Option.some.inj ht) g
  · next dd ps =>
    split at ht
    · next hp => exact lv_lookup cx.1 cx.2.1 d hp rfl (Option.some.inj ht) g
    · cases ht
  · cases ht
end
section
/-! ===== rules: new objects and arrays; what the JDK does ===== -/
def clO (n : Nat) (o : AO) : Bool := match o with
  | .inl _ => true
  | .inr (.inl (k, g)) => (List.range k).all fun i => Nat.ble (g i + 1) n
  | .inr (.inr (_, fs)) => fs.all (clV n)
def clH (h : AH) : Bool := h.all (clO h.length)
theorem co_cl {s : State} {am am' xa : Nat → Nat} {n : Nat} (h : ∀ k, k < n → am' k = am k) {o : AO} {e : va_E} (hc : clO n o = true) (ho : co s am xa o e) : co s am' xa o e := by
  match o, hc, ho with
  | .inl (ty, n, f), _, ho => exact ho
  | .inr (.inl (k, g)), hc, ⟨cA, h1, h2⟩ =>
    refine ⟨cA, ?_, h2⟩
    rw [h1]
    congr 7
    funext i
    by_cases hi : i < k
    · have h3 := List.all_eq_true.mp (show ((List.range k).all fun i => Nat.ble (g i + 1) n) = true from hc) i (List.mem_range.mpr hi)
      rw [if_pos hi, if_pos hi, h (g i) (Nat.lt_of_succ_le (Nat.le_of_ble_eq_true h3))]
    · rw [if_neg hi, if_neg hi]
  | .inr (.inr (ci, fs)), hc, ho =>
    show e = .inr (ci, fs.map (cv am' xa))
    rw [cv_cls h (show fs.all (clV n) = true from hc)]
    exact ho
theorem HOk.push {D : va_G} {s : State} {A : Nat → Prop} {am xa : Nat → Nat} {h : AH} {H H1 : Heap} {ws : va_W} (hH : HOk D s A am xa h H ws) (hcl : clH h = true) (hlt : Nat.ble (h.length + 1) 1000 = true) {q : Nat} {e : va_E} {o : AO} {am' : Nat → Nat} (ham : am' = fun k => if k = h.length then q else am k) (hP : va_P D vwCl (ws ++ [(q, e)]) H1) (hD : va_D A (ws ++ [(q, e)])) (ho : co s am' xa o e) : HOk D s A am' xa (h ++ [o]) H1 (ws ++ [(q, e)]) := by
  obtain ⟨-, -, h3, h4, h5⟩ := hH
  have hag : ∀ k, k < h.length → am' k = am k := fun k hk => by rw [ham]; exact if_neg (by omega)
  refine ⟨hP, hD, by simp [h3], by simpa using Nat.le_of_ble_eq_true hlt, fun k o' hk => ?_⟩
  by_cases hl : k < h.length
  · rw [List.getElem?_append_left hl] at hk
    rw [List.getElem?_append_left (by omega)]
    obtain ⟨e1, e2, e3⟩ := h5 k o' hk
    exact ⟨e1, by rw [e2, hag k hl], co_cl hag (List.all_eq_true.mp hcl o' (List.mem_of_getElem? hk)) e3⟩
  · rw [List.getElem?_append_right (by omega)] at hk
    have hz : k - h.length < 1 := (List.getElem?_eq_some_iff.mp hk).1
    have hk2 : k = h.length := by omega
    subst hk2
    rw [Nat.sub_self] at hk
    cases hk
    exact ⟨e, by rw [List.getElem?_append_right (by omega), h3, Nat.sub_self]; simp [ham], ho⟩
theorem Rch.new {M : MI} {X : AX} {Ψ : AS → Prop} {pc idx len nx a b N o cc' cs' : Nat} {v : Int32} {ls : AL} {st : List Value} {h : AH} {cc cs : Nat} {C : String} {T : u_T} {fs : List Value} (hm : mk M pc = (.new idx, len, nx, v, a, b)) (hc : vwCl[a]? = some (C, T, N)) (hfs : fs = (List.range N).map fun j => defaultValue (fty a j)) (ho : h.length = o) (hcl : clH h = true) (hlt : Nat.ble (h.length + 1) 1000 = true) (hcl2 : st.all (clV h.length) = true) (hcl3 : ls.all (fun q => clV h.length q.2) = true) (hc' : cc' = cc + 1) (hs' : cs' = cs + N) (hcc : cc' ≤ mC M) (hcs : cs' ≤ mS M) (hcf : fs.all (clV h.length) = true)
    (k : Rch M X (nx, ls, .ref o :: st, h ++ [.inr (.inr (a, fs))], cc', cs') Ψ) : Rch M X (pc, ls, st, h, cc, cs) Ψ := by
  subst ho
  subst hc'
  subst hs'
  intro ok p l e R s m args below meth c D xa A am0 n0 Q cx f am H locs ws lsC hn0 ham hH hS hl hg
  dsimp only at hn0 ham hH hl hg ⊢
  obtain ⟨d, hnx, o9⟩ := ok_at ok hm (by simp [ilen])
  simp only [okI, Bool.and_eq_true] at o9
  have hN := o9.2.2
  unfold okN at hN
  rw [hc] at hN
  simp only [Bool.and_eq_true] at hN
  obtain ⟨⟨w1, w2⟩, w3⟩ := hN
  have g := k ok p l e R s m args below meth c D xa A am0 n0 Q cx f
  obtain ⟨hx, hb, hml, hts, hnw, hov, hown, hini, hA, hK, hZ, hT, f1, f2, f3, f4, -⟩ := cx
  obtain ⟨i1, i2, i3⟩ := cl_in _ _ _ _ hc
  have hlt2 := Nat.le_of_ble_eq_true hlt
  have hdv : ∀ (am : Nat → Nat) (j : Nat), j < N → defaultValue (fty a j) = vp_V (fs.map (cv am xa)) j := by
    intro am j hj
    rw [hfs]
    simp only [vp_V, List.map_map, List.getD_eq_getElem?_getD, List.getElem?_map, List.getElem?_range hj, Option.map_some, Option.getD_some, Function.comp]
    cases fty a j <;> rfl
  refine va_new hx hb hts i1 (fty a) i2 hown (hts _ (okw_in w1)) (hts _ (okw_in w2)) (hts _ (okw_in w3)) hK hH.1 hH.2.1 hS hA hc (hdv am) (Nat.le_trans hcc f3) (Nat.le_trans hcs f4) d (fun q H1 hP1 hD1 hS1 => ?_)
  have hag : ∀ k9, k9 < h.length → (fun k => if k = h.length then q else am k) k9 = am k9 := fun k9 hk9 => if_neg (by omega)
  have g2 := g (fun k => if k = h.length then q else am k) H1 locs (ws ++ [(q, .inr (a, fs.map (cv am xa)))]) lsC (by simp; omega) (fun k9 hk9 => by
    dsimp only at hk9
    rw [List.length_append] at hk9
    show (if k9 = h.length then q else am k9) = am0 k9
    rw [if_neg (by simp at hk9; omega)]
    exact ham k9 (by simp at hk9; omega)) (hH.push hcl hlt rfl hP1 hD1 (by
      show _ = _
      rw [cv_cls hag hcf])) hS1 (by dsimp only; rw [lc_cls hag hcl3]; exact hl) hg
  dsimp only at g2
  rw [List.map_cons, cv_ref _ (by omega), cv_cls hag hcl2, if_pos rfl] at g2
  rw [hnx] at g2
  exact g2
theorem Rch.newa {M : MI} {X : AX} {Ψ : AS → Prop} {pc len nx a b N o cc' cs' : Nat} {v : Int32} {ls : AL} {st : List Value} {h : AH} {cc cs : Nat} {n : Int32} {ty : FieldType} {at9 : ArrayType} (hm : mk M pc = (.newarray at9, len, nx, v, a, b)) (hty : newarray.typeOf at9 = ty) (hdv : defaultValue ty = .int 0) (hw : okw (.arrayClass (newarray.typeOf at9)) = true) (hn : n = nI N) (hN : N < 2 ^ 31) (hby : N * componentBytes ty ≤ 536870912) (ho : h.length = o) (hcl : clH h = true) (hlt : Nat.ble (h.length + 1) 1000 = true) (hcl2 : st.all (clV h.length) = true) (hcl3 : ls.all (fun q => clV h.length q.2) = true) (hc' : cc' = cc + 1) (hs' : cs' = cs + N) (hcc : cc' ≤ mC M) (hcs : cs' ≤ mS M)
    (k : Rch M X (nx, ls, .ref o :: st, h ++ [.inl (ty, N, fun _ => 0)], cc', cs') Ψ) : Rch M X (pc, ls, .int n :: st, h, cc, cs) Ψ := by
  subst ho
  subst hc'
  subst hs'
  subst hn
  intro ok p l e R s m args below meth c D xa A am0 n0 Q cx f am H locs ws lsC hn0 ham hH hS hl hg
  dsimp only at hn0 ham hH hl hg ⊢
  obtain ⟨d, hnx, o9⟩ := ok_at ok hm (by simp [ilen])
  have g := k ok p l e R s m args below meth c D xa A am0 n0 Q cx f
  obtain ⟨hx, hb, hml, hts, hnw, hov, hown, hini, hA, hK, hZ, hT, f1, f2, f3, f4, -⟩ := cx
  have hlt2 := Nat.le_of_ble_eq_true hlt
  refine va_newa hx hb (hts _ (okw_in hw)) hty hK hH.1 hH.2.1 hS hA (a0 := (N, .inl fun _ => 0)) (fun cA => by rw [vp_cell_i, hdv]) (nI_nn hN) (clamp_nI hN) hby (Nat.le_trans hcc f3) (Nat.le_trans hcs f4) d (fun q cA H1 hK1 hP1 hD1 hS1 => ?_)
  have hag : ∀ k9, k9 < h.length → (fun k => if k = h.length then q else am k) k9 = am k9 := fun k9 hk9 => if_neg (by omega)
  have g2 := g (fun k => if k = h.length then q else am k) H1 locs (ws ++ [(q, .inl (cA, N, .inl fun _ => 0))]) lsC (by simp; omega) (fun k9 hk9 => by
    dsimp only at hk9
    rw [List.length_append] at hk9
    show (if k9 = h.length then q else am k9) = am0 k9
    rw [if_neg (by simp at hk9; omega)]
    exact ham k9 (by simp at hk9; omega)) (hH.push hcl hlt rfl hP1 hD1 ⟨cA, rfl, hK1.2 0 _ rfl⟩) hS1 (by dsimp only; rw [lc_cls hag hcl3]; exact hl) hg
  dsimp only at g2
  rw [List.map_cons, cv_ref _ (by omega), cv_cls hag hcl2, if_pos rfl] at g2
  rw [hnx] at g2
  exact g2
theorem Rch.oi {M : MI} {X : AX} {Ψ : AS → Prop} {pc idx len nx a b o : Nat} {v : Int32} {ls : AL} {st : List Value} {h : AH} {cc cs : Nat} (hm : mk M pc = (.invokespecial idx, len, nx, v, a, b)) (hw : okw (.methodLink (mo M) idx objectInit) = true) (hF : Nat.ble 1 (mF M) = true) (hW : Nat.ble 20 (mW M) = true) (hr : catOk st = true)
    (k : Rch M X (nx, ls, st, h, cc, cs) Ψ) : Rch M X (pc, ls, .ref o :: st, h, cc, cs) Ψ := by
  intro ok p l e R s m args below meth c D xa A am0 n0 Q cx f am H locs ws lsC hn0 ham hH hS hl hg
  dsimp only at hn0 ham hH hl hg ⊢
  obtain ⟨d, hnx, -⟩ := ok_at ok hm (by simp [ilen])
  have g := k ok p l e R s m args below meth c D xa A am0 n0 Q cx f am H locs ws lsC hn0 ham hH hS hl hg
  obtain ⟨hx, hb, hml, hts, hnw, hov, hown, hini, hA, hK, hZ, hT, f1, f2, f3, f4, -⟩ := cx
  rw [hnx] at g
  have h1 := Nat.le_of_ble_eq_true hF
  have h2 := Nat.le_of_ble_eq_true hW
  have h3 := cat_sum (am := am) (xa := xa) hr
  have h4 := lv_room (m := m) (pc := pc) (ls := lsC) (rest := (Value.ref o :: st).map (cv am xa)) h3
  exact W.objInit hx hb hown (hts _ (okw_in hw)) (hts _ (okw_in (by decide +kernel))) (hts _ (okw_in (by decide +kernel))) rfl (hl.1.trans hml.symm) (a := if o < 1000 then am o else xa (o - 1000)) rfl d (by omega) (by omega) g
theorem Rch.min {M : MI} {X : AX} {Ψ : AS → Prop} {pc idx len nx a b : Nat} {v x y : Int32} {ls : AL} {st : List Value} {h : AH} {cc cs : Nat} (hm : mk M pc = (.invokestatic idx, len, nx, v, a, b)) (hw : okw (.methodLink (mo M) idx Lib.Math.min.name) = true) (hF : Nat.ble 1 (mF M) = true) (hW : Nat.ble 21 (mW M) = true) (hr : catOk st = true) (hcc : cc ≤ mC M) (hcs : cs ≤ mS M)
    (k : Rch M X (nx, ls, .int (if y < x then y else x) :: st, h, cc, cs) Ψ) : Rch M X (pc, ls, .int y :: .int x :: st, h, cc, cs) Ψ := by
  intro ok p l e R s m args below meth c D xa A am0 n0 Q cx f am H locs ws lsC hn0 ham hH hS hl hg
  dsimp only at hn0 ham hH hl hg ⊢
  obtain ⟨d, hnx, -⟩ := ok_at ok hm (by simp [ilen])
  have g := k ok p l e R s m args below meth c D xa A am0 n0 Q cx f am H locs ws lsC hn0 ham hH hS hl hg
  obtain ⟨hx, hb, hml, hts, hnw, hov, hown, hini, hA, hK, hZ, hT, f1, f2, f3, f4, -⟩ := cx
  rw [hnx] at g
  have h1 := Nat.le_of_ble_eq_true hF
  have h2 := Nat.le_of_ble_eq_true hW
  have h3 := cat_sum (am := am) (xa := xa) hr
  exact va_mmin hx hb (hml.trans hl.1.symm) hown (hts _ (okw_in hw)) (hts _ (okw_in (by decide +kernel))) (hts _ (okw_in (by decide +kernel))) (hts _ (okw_in (by decide +kernel))) (by omega) (by omega) (by omega) (by omega) d g
theorem Rch.abs {M : MI} {X : AX} {Ψ : AS → Prop} {pc idx len nx a b : Nat} {v x : Int32} {ls : AL} {st : List Value} {h : AH} {cc cs : Nat} (hm : mk M pc = (.invokestatic idx, len, nx, v, a, b)) (hw : okw (.methodLink (mo M) idx Lib.Math.abs.name) = true) (hF : Nat.ble 1 (mF M) = true) (hW : Nat.ble 21 (mW M) = true) (hr : catOk st = true) (hcc : cc ≤ mC M) (hcs : cs ≤ mS M)
    (k : Rch M X (nx, ls, .int (if 0 ≤ x then x else 0 - x) :: st, h, cc, cs) Ψ) : Rch M X (pc, ls, .int x :: st, h, cc, cs) Ψ := by
  intro ok p l e R s m args below meth c D xa A am0 n0 Q cx f am H locs ws lsC hn0 ham hH hS hl hg
  dsimp only at hn0 ham hH hl hg ⊢
  obtain ⟨d, hnx, -⟩ := ok_at ok hm (by simp [ilen])
  have g := k ok p l e R s m args below meth c D xa A am0 n0 Q cx f am H locs ws lsC hn0 ham hH hS hl hg
  obtain ⟨hx, hb, hml, hts, hnw, hov, hown, hini, hA, hK, hZ, hT, f1, f2, f3, f4, -⟩ := cx
  rw [hnx] at g
  have h1 := Nat.le_of_ble_eq_true hF
  have h2 := Nat.le_of_ble_eq_true hW
  have h3 := cat_sum (am := am) (xa := xa) hr
  exact va_mabs hx hb (hml.trans hl.1.symm) hown (hts _ (okw_in hw)) (hts _ (okw_in (by decide +kernel))) (hts _ (okw_in (by decide +kernel))) (hts _ (okw_in (by decide +kernel))) (by omega) (by omega) (by omega) (by omega) d g
theorem Rch.copy {M : MI} {X : AX} {Ψ : AS → Prop} {pc idx len nx a b n0' n1' o0 o1 nn : Nat} {v z1 z2 z3 : Int32} {ls : AL} {st : List Value} {h : AH} {cc cs : Nat} {f0 f1 : Nat → Int32} (hm : mk M pc = (.invokestatic idx, len, nx, v, a, b)) (hw : okw (.methodLink (mo M) idx arraycopyName) = true) (hF : Nat.ble 1 (mF M) = true) (hW : Nat.ble (8 + (nativeFrameWords "java/lang/System" "arraycopy" 5 + 11)) (mW M) = true) (hr : catOk st = true)
    (h0 : nth h o0 = some (.inl (.int, n0', f0))) (h1 : nth h o1 = some (.inl (.int, n1', f1))) (hz1 : z1 = 0) (hz2 : z2 = 0) (hz3 : z3 = nI nn) (hnn : nn < 2 ^ 31) (hn0' : nn ≤ n0') (hn1' : nn ≤ n1')
    (k : Rch M X (nx, ls, st, setN h o1 (.inl (.int, n1', fun j => if j < nn then f0 j else f1 j)), cc, cs) Ψ) : Rch M X (pc, ls, .int z3 :: .int z2 :: .ref o1 :: .int z1 :: .ref o0 :: st, h, cc, cs) Ψ := by
  subst hz1
  subst hz2
  subst hz3
  intro ok p l e R s m args below meth c D xa A am0 n0 Q cx f am H locs ws lsC hn0 ham hH hS hl hg
  dsimp only at hn0 ham hH hl hg ⊢
  obtain ⟨d, hnx, -⟩ := ok_at ok hm (by simp [ilen])
  have g := k ok p l e R s m args below meth c D xa A am0 n0 Q cx f
  obtain ⟨hx, hb, hml, hts, hnw, hov, hown, hini, hA, hK, hZ, hT, r1, r2, r3, r4, -⟩ := cx
  rw [hnx] at g
  have g1 := Nat.le_of_ble_eq_true hF
  have g2 := Nat.le_of_ble_eq_true hW
  have g3 := cat_sum (am := am) (xa := xa) hr
  obtain ⟨k0, e0, he0, c0, rfl, t0⟩ := hH.at h0
  obtain ⟨k1, e1, he1, c1, rfl, t1⟩ := hH.at h1
  show W p l e R s m args below meth c H locs cc cs Q (F0 m pc lsC (.int (nI nn) :: .int 0 :: cv am xa (.ref o1) :: .int 0 :: cv am xa (.ref o0) :: st.map (cv am xa)))
  rw [cv_ref am k0, cv_ref am k1]
  have e9 : va_cpy f0 f1 (0 : Int32).toNatClampNeg (0 : Int32).toNatClampNeg (nI nn).toNatClampNeg = fun j => if j < nn then f0 j else f1 j := by
    funext j
    rw [clamp_nI hnn]
    show (if 0 ≤ j ∧ j < 0 + nn then f0 (0 + (j - 0)) else f1 j) = _
    simp
  refine va_copyi hx hb (hml.trans hl.1.symm) hown (hts _ (okw_in hw)) (hts _ (okw_in (by decide +kernel))) (hts _ (okw_in (by decide +kernel))) (hts _ (okw_in (by decide +kernel))) (tys := [(c0, .int), (c1, .int)]) ⟨hK.1, fun k9 q9 h9 => by
      match k9, h9 with
      | 0, h9 => cases h9; exact t0
      | 1, h9 => cases h9; exact t1
      | k9 + 2, h9 => simp at h9⟩ hH.1 hH.2.1 hS o0 o1 0 1 he0 he1 rfl rfl rfl (by decide) (by decide) (nI_nn hnn) ?_ ?_ (fun i hi => rfl) (by omega) (by omega) d ?_
  · rw [clamp_nI hnn]; show 0 + nn ≤ _; omega
  · rw [clamp_nI hnn]; show 0 + nn ≤ _; omega
  · rw [e9]
    intro H1 locs1 hP1 hD1 hS1
    exact g am H1 locs1 _ lsC (by simpa [setN_eq] using hn0) (by simpa [setN_eq] using ham) (hH.set hP1 hD1 ⟨c1, rfl, t1⟩) hS1 hl hg
def rowOk (M : MI) (pc : Nat) : Bool := decide (mk M pc = nopI) || match decode (mb M) pc with
  | .ok (i, l) => decide (i = (mk M pc).1) && (decide (l = (mk M pc).2.1) && okI (mo M) pc (mk M pc))
  | .error _ => false
theorem MOk.of {M : MI} {f : Nat → Ins} (h : (List.range (mN M)).all (rowOk M) = true) (hf : ∀ pc, mk M pc = cond (Nat.ble (mN M) pc) nopI (f pc)) : MOk M := by
  refine ⟨fun pc hpc => ?_, fun pc hpc => ?_⟩
  · have h1 := List.all_eq_true.mp h pc (List.mem_range.mpr hpc)
    unfold rowOk at h1
    simp only [Bool.or_eq_true, decide_eq_true_eq] at h1
    rcases h1 with h1 | h1
    · exact Or.inl h1
    · right
      split at h1
      · next i l hd =>
        simp only [Bool.and_eq_true, decide_eq_true_eq] at h1
        obtain ⟨rfl, rfl, h3⟩ := h1
        exact ⟨hd, h3⟩
      · cases h1
  · rw [hf, Nat.ble_eq_true_of_le hpc]; rfl
end
section
/-! ===== a constant out of the class's own list ===== -/
theorem Rch.ldc {M : MI} {X : AX} {Ψ : AS → Prop} {pc idx len nx a b : Nat} {v : Int32} {ls : AL} {st : List Value} {h : AH} {cc cs : Nat} (hm : mk M pc = (.ldc idx, len, nx, v, a, b)) (hw : okw (.constant (mo M) idx v) = true)
    (k : Rch M X (nx, ls, .int v :: st, h, cc, cs) Ψ) : Rch M X (pc, ls, st, h, cc, cs) Ψ := by
  intro ok p l e R s m args below meth c D xa A am0 n0 Q cx f am H locs ws lsC hn0 ham hH hS hl hg
  dsimp only at hn0 ham hH hl hg ⊢
  obtain ⟨d, hnx, -⟩ := ok_at ok hm (by simp [ilen])
  have g := k ok p l e R s m args below meth c D xa A am0 n0 Q cx f am H locs ws lsC hn0 ham hH hS hl hg
  obtain ⟨hx, hb, hml, hts, hnw, hov, hown, hini, hA, hK, hZ, hT, f1, f2, f3, f4, -⟩ := cx
  rw [hnx] at g
  exact lv_ldc hx hb hown (hts _ (okw_in hw)) d g
end
section
/-! ===== the instructions of the methods, by program ===== -/
def k_X0_init (pc : Nat) : Ins := cond (Nat.ble 17 pc) nopI (cond (Nat.ble pc 5) (cond (Nat.ble pc 3) (cond (Nat.ble pc 0) (cond (Nat.beq pc 0) (.aload_n 0, 1, 1, 0, 0, 0) nopI) (cond (Nat.beq pc 1) (.invokespecial 3, 3, 4, 0, 0, 0) nopI)) (cond (Nat.ble pc 4) (cond (Nat.beq pc 4) (.aload_n 0, 1, 5, 0, 0, 0) nopI) (cond (Nat.beq pc 5) (.iconst 4, 1, 6, 4, 0, 0) nopI))) (cond (Nat.ble pc 12) (cond (Nat.ble pc 8) (cond (Nat.beq pc 6) (.sipush 162, 3, 9, 162, 0, 0) nopI) (cond (Nat.beq pc 9) (.multianewarray 11 2, 4, 13, 0, 0, 0) nopI)) (cond (Nat.ble pc 15) (cond (Nat.beq pc 13) (.putfield 13, 3, 16, 0, 0, 0) nopI) (cond (Nat.beq pc 16) (.return_, 1, 17, 0, 0, 0) nopI))))
def m_X0_init : MI := (yX0_init, cX0_init, 1, none, (1, 20, 5, 652), 17, k_X0_init)
set_option maxRecDepth 100000 in
theorem ok_X0_init : MOk m_X0_init := MOk.of (by decide +kernel) (fun _ => rfl)
theorem om_X0_init : okM m_X0_init = true := by decide +kernel
def k_X0_length (pc : Nat) : Ins := cond (Nat.ble 5 pc) nopI (cond (Nat.ble pc 0) (cond (Nat.beq pc 0) (.aload_n 0, 1, 1, 0, 0, 0) nopI) (cond (Nat.ble pc 3) (cond (Nat.beq pc 1) (.getfield 18, 3, 4, 0, 0, 2) nopI) (cond (Nat.beq pc 4) (.ireturn, 1, 5, 0, 0, 0) nopI)))
def m_X0_length : MI := (yX0_length, cX0_length, 1, (some .int), (0, 0, 0, 0), 5, k_X0_length)
set_option maxRecDepth 100000 in
theorem ok_X0_length : MOk m_X0_length := MOk.of (by decide +kernel) (fun _ => rfl)
theorem om_X0_length : okM m_X0_length = true := by decide +kernel
def k_X6_copyTo (pc : Nat) : Ins := cond (Nat.ble 26 pc) nopI (cond (Nat.ble pc 12) (cond (Nat.ble pc 4) (cond (Nat.ble pc 0) (cond (Nat.beq pc 0) (.aload_n 1, 1, 1, 0, 1, 0) nopI) (cond (Nat.ble pc 3) (cond (Nat.beq pc 1) (.ifnull 24, 3, 4, 0, 25, 0) nopI) (cond (Nat.beq pc 4) (.aload_n 1, 1, 5, 0, 1, 0) nopI))) (cond (Nat.ble pc 8) (cond (Nat.ble pc 5) (cond (Nat.beq pc 5) (.arraylength, 1, 6, 0, 0, 0) nopI) (cond (Nat.beq pc 6) (.sipush 162, 3, 9, 162, 0, 0) nopI)) (cond (Nat.ble pc 11) (cond (Nat.beq pc 9) (.if_icmp .ne 16, 3, 12, 0, 25, 0) nopI) (cond (Nat.beq pc 12) (.aload_n 0, 1, 13, 0, 0, 0) nopI)))) (cond (Nat.ble pc 17) (cond (Nat.ble pc 15) (cond (Nat.beq pc 13) (.getfield 11, 3, 16, 0, 2, 0) nopI) (cond (Nat.ble pc 16) (cond (Nat.beq pc 16) (.iconst 0, 1, 17, 0, 0, 0) nopI) (cond (Nat.beq pc 17) (.aload_n 1, 1, 18, 0, 1, 0) nopI))) (cond (Nat.ble pc 21) (cond (Nat.ble pc 18) (cond (Nat.beq pc 18) (.iconst 0, 1, 19, 0, 0, 0) nopI) (cond (Nat.beq pc 19) (.sipush 162, 3, 22, 162, 0, 0) nopI)) (cond (Nat.ble pc 24) (cond (Nat.beq pc 22) (.invokestatic 21, 3, 25, 0, 0, 0) nopI) (cond (Nat.beq pc 25) (.return_, 1, 26, 0, 0, 0) nopI)))))
def m_X6_copyTo : MI := (yX6_copyTo, cX6_copyTo, 2, none, (1, 26, 0, 0), 26, k_X6_copyTo)
set_option maxRecDepth 100000 in
theorem ok_X6_copyTo : MOk m_X6_copyTo := MOk.of (by decide +kernel) (fun _ => rfl)
theorem om_X6_copyTo : okM m_X6_copyTo = true := by decide +kernel
def k_X0_record (pc : Nat) : Ins := cond (Nat.ble 56 pc) nopI (cond (Nat.ble pc 29) (cond (Nat.ble pc 15) (cond (Nat.ble pc 7) (cond (Nat.ble pc 3) (cond (Nat.ble pc 0) (cond (Nat.beq pc 0) (.aload_n 0, 1, 1, 0, 0, 0) nopI) (cond (Nat.beq pc 1) (.getfield 22, 3, 4, 0, 0, 1) nopI)) (cond (Nat.ble pc 6) (cond (Nat.beq pc 4) (.ifCond .lt 11, 3, 7, 0, 15, 0) nopI) (cond (Nat.beq pc 7) (.aload_n 0, 1, 8, 0, 0, 0) nopI))) (cond (Nat.ble pc 11) (cond (Nat.ble pc 10) (cond (Nat.beq pc 8) (.getfield 22, 3, 11, 0, 0, 1) nopI) (cond (Nat.beq pc 11) (.iconst 4, 1, 12, 4, 0, 0) nopI)) (cond (Nat.ble pc 14) (cond (Nat.beq pc 12) (.if_icmp .lt 4, 3, 15, 0, 16, 0) nopI) (cond (Nat.beq pc 15) (.return_, 1, 16, 0, 0, 0) nopI)))) (cond (Nat.ble pc 21) (cond (Nat.ble pc 17) (cond (Nat.ble pc 16) (cond (Nat.beq pc 16) (.aload_n 1, 1, 17, 0, 1, 0) nopI) (cond (Nat.beq pc 17) (.aload_n 0, 1, 18, 0, 0, 0) nopI)) (cond (Nat.ble pc 20) (cond (Nat.beq pc 18) (.getfield 13, 3, 21, 0, 0, 0) nopI) (cond (Nat.beq pc 21) (.aload_n 0, 1, 22, 0, 0, 0) nopI))) (cond (Nat.ble pc 25) (cond (Nat.ble pc 24) (cond (Nat.beq pc 22) (.getfield 22, 3, 25, 0, 0, 1) nopI) (cond (Nat.beq pc 25) (.aaload, 1, 26, 0, 0, 0) nopI)) (cond (Nat.ble pc 28) (cond (Nat.beq pc 26) (.invokevirtual 25, 3, 29, 0, 0, 0) nopI) (cond (Nat.beq pc 29) (.aload_n 0, 1, 30, 0, 0, 0) nopI))))) (cond (Nat.ble pc 41) (cond (Nat.ble pc 35) (cond (Nat.ble pc 33) (cond (Nat.ble pc 30) (cond (Nat.beq pc 30) (.aload_n 0, 1, 31, 0, 0, 0) nopI) (cond (Nat.beq pc 31) (.getfield 22, 3, 34, 0, 0, 1) nopI)) (cond (Nat.ble pc 34) (cond (Nat.beq pc 34) (.iconst 1, 1, 35, 1, 0, 0) nopI) (cond (Nat.beq pc 35) (.iadd, 1, 36, 0, 0, 0) nopI))) (cond (Nat.ble pc 37) (cond (Nat.ble pc 36) (cond (Nat.beq pc 36) (.iconst 4, 1, 37, 4, 0, 0) nopI) (cond (Nat.beq pc 37) (.irem, 1, 38, 0, 0, 0) nopI)) (cond (Nat.ble pc 40) (cond (Nat.beq pc 38) (.putfield 22, 3, 41, 0, 0, 1) nopI) (cond (Nat.beq pc 41) (.aload_n 0, 1, 42, 0, 0, 0) nopI)))) (cond (Nat.ble pc 47) (cond (Nat.ble pc 45) (cond (Nat.ble pc 42) (cond (Nat.beq pc 42) (.aload_n 0, 1, 43, 0, 0, 0) nopI) (cond (Nat.beq pc 43) (.getfield 18, 3, 46, 0, 0, 2) nopI)) (cond (Nat.ble pc 46) (cond (Nat.beq pc 46) (.iconst 1, 1, 47, 1, 0, 0) nopI) (cond (Nat.beq pc 47) (.iadd, 1, 48, 0, 0, 0) nopI))) (cond (Nat.ble pc 51) (cond (Nat.ble pc 48) (cond (Nat.beq pc 48) (.iconst 4, 1, 49, 4, 0, 0) nopI) (cond (Nat.beq pc 49) (.invokestatic 29, 3, 52, 0, 0, 0) nopI)) (cond (Nat.ble pc 54) (cond (Nat.beq pc 52) (.putfield 18, 3, 55, 0, 0, 2) nopI) (cond (Nat.beq pc 55) (.return_, 1, 56, 0, 0, 0) nopI))))))
def m_X0_record : MI := (yX0_record, cX0_record, 2, none, (2, 47, 0, 0), 56, k_X0_record)
set_option maxRecDepth 100000 in
theorem ok_X0_record : MOk m_X0_record := MOk.of (by decide +kernel) (fun _ => rfl)
theorem om_X0_record : okM m_X0_record = true := by decide +kernel
def k_X6_copyFrom (pc : Nat) : Ins := cond (Nat.ble 26 pc) nopI (cond (Nat.ble pc 12) (cond (Nat.ble pc 4) (cond (Nat.ble pc 0) (cond (Nat.beq pc 0) (.aload_n 1, 1, 1, 0, 1, 0) nopI) (cond (Nat.ble pc 3) (cond (Nat.beq pc 1) (.ifnull 24, 3, 4, 0, 25, 0) nopI) (cond (Nat.beq pc 4) (.aload_n 1, 1, 5, 0, 1, 0) nopI))) (cond (Nat.ble pc 8) (cond (Nat.ble pc 5) (cond (Nat.beq pc 5) (.arraylength, 1, 6, 0, 0, 0) nopI) (cond (Nat.beq pc 6) (.sipush 162, 3, 9, 162, 0, 0) nopI)) (cond (Nat.ble pc 11) (cond (Nat.beq pc 9) (.if_icmp .ne 16, 3, 12, 0, 25, 0) nopI) (cond (Nat.beq pc 12) (.aload_n 1, 1, 13, 0, 1, 0) nopI)))) (cond (Nat.ble pc 17) (cond (Nat.ble pc 13) (cond (Nat.beq pc 13) (.iconst 0, 1, 14, 0, 0, 0) nopI) (cond (Nat.ble pc 14) (cond (Nat.beq pc 14) (.aload_n 0, 1, 15, 0, 0, 0) nopI) (cond (Nat.beq pc 15) (.getfield 11, 3, 18, 0, 2, 0) nopI))) (cond (Nat.ble pc 21) (cond (Nat.ble pc 18) (cond (Nat.beq pc 18) (.iconst 0, 1, 19, 0, 0, 0) nopI) (cond (Nat.beq pc 19) (.sipush 162, 3, 22, 162, 0, 0) nopI)) (cond (Nat.ble pc 24) (cond (Nat.beq pc 22) (.invokestatic 21, 3, 25, 0, 0, 0) nopI) (cond (Nat.beq pc 25) (.return_, 1, 26, 0, 0, 0) nopI)))))
def m_X6_copyFrom : MI := (yX6_copyFrom, cX6_copyFrom, 2, none, (1, 26, 0, 0), 26, k_X6_copyFrom)
set_option maxRecDepth 100000 in
theorem ok_X6_copyFrom : MOk m_X6_copyFrom := MOk.of (by decide +kernel) (fun _ => rfl)
theorem om_X6_copyFrom : okM m_X6_copyFrom = true := by decide +kernel
def k_X0_bringBack (pc : Nat) : Ins := cond (Nat.ble 54 pc) nopI (cond (Nat.ble pc 26) (cond (Nat.ble pc 9) (cond (Nat.ble pc 5) (cond (Nat.ble pc 3) (cond (Nat.ble pc 0) (cond (Nat.beq pc 0) (.aload_n 0, 1, 1, 0, 0, 0) nopI) (cond (Nat.beq pc 1) (.getfield 22, 3, 4, 0, 0, 1) nopI)) (cond (Nat.ble pc 4) (cond (Nat.beq pc 4) (.iconst 4, 1, 5, 4, 0, 0) nopI) (cond (Nat.beq pc 5) (.iadd, 1, 6, 0, 0, 0) nopI))) (cond (Nat.ble pc 7) (cond (Nat.ble pc 6) (cond (Nat.beq pc 6) (.iconst 1, 1, 7, 1, 0, 0) nopI) (cond (Nat.beq pc 7) (.isub, 1, 8, 0, 0, 0) nopI)) (cond (Nat.ble pc 8) (cond (Nat.beq pc 8) (.iconst 4, 1, 9, 4, 0, 0) nopI) (cond (Nat.beq pc 9) (.irem, 1, 10, 0, 0, 0) nopI)))) (cond (Nat.ble pc 17) (cond (Nat.ble pc 11) (cond (Nat.ble pc 10) (cond (Nat.beq pc 10) (.istore_n 2, 1, 11, 0, 2, 0) nopI) (cond (Nat.beq pc 11) (.aload_n 0, 1, 12, 0, 0, 0) nopI)) (cond (Nat.ble pc 14) (cond (Nat.beq pc 12) (.getfield 18, 3, 15, 0, 0, 2) nopI) (cond (Nat.beq pc 15) (.ifCond .eq 12, 3, 18, 0, 27, 0) nopI))) (cond (Nat.ble pc 21) (cond (Nat.ble pc 18) (cond (Nat.beq pc 18) (.iload_n 2, 1, 19, 0, 2, 0) nopI) (cond (Nat.beq pc 19) (.ifCond .lt 8, 3, 22, 0, 27, 0) nopI)) (cond (Nat.ble pc 22) (cond (Nat.beq pc 22) (.iload_n 2, 1, 23, 0, 2, 0) nopI) (cond (Nat.ble pc 23) (cond (Nat.beq pc 23) (.iconst 4, 1, 24, 4, 0, 0) nopI) (cond (Nat.beq pc 24) (.if_icmp .lt 4, 3, 27, 0, 28, 0) nopI)))))) (cond (Nat.ble pc 38) (cond (Nat.ble pc 32) (cond (Nat.ble pc 28) (cond (Nat.ble pc 27) (cond (Nat.beq pc 27) (.return_, 1, 28, 0, 0, 0) nopI) (cond (Nat.beq pc 28) (.aload_n 1, 1, 29, 0, 1, 0) nopI)) (cond (Nat.ble pc 29) (cond (Nat.beq pc 29) (.aload_n 0, 1, 30, 0, 0, 0) nopI) (cond (Nat.beq pc 30) (.getfield 13, 3, 33, 0, 0, 0) nopI))) (cond (Nat.ble pc 34) (cond (Nat.ble pc 33) (cond (Nat.beq pc 33) (.iload_n 2, 1, 34, 0, 2, 0) nopI) (cond (Nat.beq pc 34) (.aaload, 1, 35, 0, 0, 0) nopI)) (cond (Nat.ble pc 37) (cond (Nat.beq pc 35) (.invokevirtual 35, 3, 38, 0, 0, 0) nopI) (cond (Nat.beq pc 38) (.aload_n 0, 1, 39, 0, 0, 0) nopI)))) (cond (Nat.ble pc 44) (cond (Nat.ble pc 42) (cond (Nat.ble pc 39) (cond (Nat.beq pc 39) (.iload_n 2, 1, 40, 0, 2, 0) nopI) (cond (Nat.beq pc 40) (.putfield 22, 3, 43, 0, 0, 1) nopI)) (cond (Nat.ble pc 43) (cond (Nat.beq pc 43) (.aload_n 0, 1, 44, 0, 0, 0) nopI) (cond (Nat.beq pc 44) (.dup, 1, 45, 0, 0, 0) nopI))) (cond (Nat.ble pc 48) (cond (Nat.ble pc 47) (cond (Nat.beq pc 45) (.getfield 18, 3, 48, 0, 0, 2) nopI) (cond (Nat.beq pc 48) (.iconst 1, 1, 49, 1, 0, 0) nopI)) (cond (Nat.ble pc 49) (cond (Nat.beq pc 49) (.isub, 1, 50, 0, 0, 0) nopI) (cond (Nat.ble pc 52) (cond (Nat.beq pc 50) (.putfield 18, 3, 53, 0, 0, 2) nopI) (cond (Nat.beq pc 53) (.return_, 1, 54, 0, 0, 0) nopI)))))))
def m_X0_bringBack : MI := (yX0_bringBack, cX0_bringBack, 3, none, (2, 47, 0, 0), 54, k_X0_bringBack)
set_option maxRecDepth 100000 in
theorem ok_X0_bringBack : MOk m_X0_bringBack := MOk.of (by decide +kernel) (fun _ => rfl)
theorem om_X0_bringBack : okM m_X0_bringBack = true := by decide +kernel
def k_X6_openTanks (pc : Nat) : Ins := cond (Nat.ble 42 pc) nopI (cond (Nat.ble pc 18) (cond (Nat.ble pc 8) (cond (Nat.ble pc 2) (cond (Nat.ble pc 0) (cond (Nat.beq pc 0) (.iconst 0, 1, 1, 0, 0, 0) nopI) (cond (Nat.ble pc 1) (cond (Nat.beq pc 1) (.istore_n 1, 1, 2, 0, 1, 0) nopI) (cond (Nat.beq pc 2) (.iconst 0, 1, 3, 0, 0, 0) nopI))) (cond (Nat.ble pc 4) (cond (Nat.ble pc 3) (cond (Nat.beq pc 3) (.istore_n 2, 1, 4, 0, 2, 0) nopI) (cond (Nat.beq pc 4) (.iload_n 2, 1, 5, 0, 2, 0) nopI)) (cond (Nat.ble pc 5) (cond (Nat.beq pc 5) (.iconst 5, 1, 6, 5, 0, 0) nopI) (cond (Nat.beq pc 6) (.if_icmp .ge 34, 3, 9, 0, 40, 0) nopI)))) (cond (Nat.ble pc 14) (cond (Nat.ble pc 9) (cond (Nat.beq pc 9) (.aload_n 0, 1, 10, 0, 0, 0) nopI) (cond (Nat.ble pc 12) (cond (Nat.beq pc 10) (.getfield 11, 3, 13, 0, 2, 0) nopI) (cond (Nat.beq pc 13) (.bipush 123, 2, 15, 123, 0, 0) nopI))) (cond (Nat.ble pc 16) (cond (Nat.ble pc 15) (cond (Nat.beq pc 15) (.iload_n 2, 1, 16, 0, 2, 0) nopI) (cond (Nat.beq pc 16) (.iadd, 1, 17, 0, 0, 0) nopI)) (cond (Nat.ble pc 17) (cond (Nat.beq pc 17) (.iaload, 1, 18, 0, 0, 0) nopI) (cond (Nat.beq pc 18) (.iconst 1, 1, 19, 1, 0, 0) nopI))))) (cond (Nat.ble pc 30) (cond (Nat.ble pc 23) (cond (Nat.ble pc 21) (cond (Nat.beq pc 19) (.if_icmp .ne 15, 3, 22, 0, 34, 0) nopI) (cond (Nat.ble pc 22) (cond (Nat.beq pc 22) (.iload_n 1, 1, 23, 0, 1, 0) nopI) (cond (Nat.beq pc 23) (.aload_n 0, 1, 24, 0, 0, 0) nopI))) (cond (Nat.ble pc 28) (cond (Nat.ble pc 26) (cond (Nat.beq pc 24) (.getfield 11, 3, 27, 0, 2, 0) nopI) (cond (Nat.beq pc 27) (.bipush 118, 2, 29, 118, 0, 0) nopI)) (cond (Nat.ble pc 29) (cond (Nat.beq pc 29) (.iload_n 2, 1, 30, 0, 2, 0) nopI) (cond (Nat.beq pc 30) (.iadd, 1, 31, 0, 0, 0) nopI)))) (cond (Nat.ble pc 33) (cond (Nat.ble pc 31) (cond (Nat.beq pc 31) (.iaload, 1, 32, 0, 0, 0) nopI) (cond (Nat.ble pc 32) (cond (Nat.beq pc 32) (.ior, 1, 33, 0, 0, 0) nopI) (cond (Nat.beq pc 33) (.istore_n 1, 1, 34, 0, 1, 0) nopI))) (cond (Nat.ble pc 39) (cond (Nat.ble pc 36) (cond (Nat.beq pc 34) (.iinc 2 1, 3, 37, 1, 2, 0) nopI) (cond (Nat.beq pc 37) (.goto (-33), 3, 40, 0, 4, 0) nopI)) (cond (Nat.ble pc 40) (cond (Nat.beq pc 40) (.iload_n 1, 1, 41, 0, 1, 0) nopI) (cond (Nat.beq pc 41) (.ireturn, 1, 42, 0, 0, 0) nopI))))))
def m_X6_openTanks : MI := (yX6_openTanks, cX6_openTanks, 3, (some .int), (0, 0, 0, 0), 42, k_X6_openTanks)
set_option maxRecDepth 100000 in
theorem ok_X6_openTanks : MOk m_X6_openTanks := MOk.of (by decide +kernel) (fun _ => rfl)
theorem om_X6_openTanks : okM m_X6_openTanks = true := by decide +kernel
def k_X6_at (pc : Nat) : Ins := cond (Nat.ble 22 pc) nopI (cond (Nat.ble pc 11) (cond (Nat.ble pc 4) (cond (Nat.ble pc 0) (cond (Nat.beq pc 0) (.iload_n 1, 1, 1, 0, 1, 0) nopI) (cond (Nat.ble pc 3) (cond (Nat.beq pc 1) (.ifCond .lt 19, 3, 4, 0, 20, 0) nopI) (cond (Nat.beq pc 4) (.iload_n 1, 1, 5, 0, 1, 0) nopI))) (cond (Nat.ble pc 7) (cond (Nat.beq pc 5) (.sipush 162, 3, 8, 162, 0, 0) nopI) (cond (Nat.ble pc 10) (cond (Nat.beq pc 8) (.if_icmp .ge 12, 3, 11, 0, 20, 0) nopI) (cond (Nat.beq pc 11) (.aload_n 0, 1, 12, 0, 0, 0) nopI)))) (cond (Nat.ble pc 16) (cond (Nat.ble pc 14) (cond (Nat.beq pc 12) (.getfield 11, 3, 15, 0, 2, 0) nopI) (cond (Nat.ble pc 15) (cond (Nat.beq pc 15) (.iload_n 1, 1, 16, 0, 1, 0) nopI) (cond (Nat.beq pc 16) (.iaload, 1, 17, 0, 0, 0) nopI))) (cond (Nat.ble pc 19) (cond (Nat.beq pc 17) (.goto 4, 3, 20, 0, 21, 0) nopI) (cond (Nat.ble pc 20) (cond (Nat.beq pc 20) (.iconst 0, 1, 21, 0, 0, 0) nopI) (cond (Nat.beq pc 21) (.ireturn, 1, 22, 0, 0, 0) nopI)))))
def m_X6_at : MI := (yX6_at, cX6_at, 2, (some .int), (0, 0, 0, 0), 22, k_X6_at)
set_option maxRecDepth 100000 in
theorem ok_X6_at : MOk m_X6_at := MOk.of (by decide +kernel) (fun _ => rfl)
theorem om_X6_at : okM m_X6_at = true := by decide +kernel
def k_X6_add (pc : Nat) : Ins := cond (Nat.ble 22 pc) nopI (cond (Nat.ble pc 14) (cond (Nat.ble pc 4) (cond (Nat.ble pc 0) (cond (Nat.beq pc 0) (.iload_n 1, 1, 1, 0, 1, 0) nopI) (cond (Nat.ble pc 3) (cond (Nat.beq pc 1) (.ifCond .lt 20, 3, 4, 0, 21, 0) nopI) (cond (Nat.beq pc 4) (.iload_n 1, 1, 5, 0, 1, 0) nopI))) (cond (Nat.ble pc 10) (cond (Nat.ble pc 7) (cond (Nat.beq pc 5) (.sipush 162, 3, 8, 162, 0, 0) nopI) (cond (Nat.beq pc 8) (.if_icmp .ge 13, 3, 11, 0, 21, 0) nopI)) (cond (Nat.ble pc 11) (cond (Nat.beq pc 11) (.aload_n 0, 1, 12, 0, 0, 0) nopI) (cond (Nat.beq pc 12) (.getfield 11, 3, 15, 0, 2, 0) nopI)))) (cond (Nat.ble pc 17) (cond (Nat.ble pc 15) (cond (Nat.beq pc 15) (.iload_n 1, 1, 16, 0, 1, 0) nopI) (cond (Nat.ble pc 16) (cond (Nat.beq pc 16) (.dup2, 1, 17, 0, 0, 0) nopI) (cond (Nat.beq pc 17) (.iaload, 1, 18, 0, 0, 0) nopI))) (cond (Nat.ble pc 19) (cond (Nat.ble pc 18) (cond (Nat.beq pc 18) (.iload_n 2, 1, 19, 0, 2, 0) nopI) (cond (Nat.beq pc 19) (.iadd, 1, 20, 0, 0, 0) nopI)) (cond (Nat.ble pc 20) (cond (Nat.beq pc 20) (.iastore, 1, 21, 0, 0, 0) nopI) (cond (Nat.beq pc 21) (.return_, 1, 22, 0, 0, 0) nopI)))))
def m_X6_add : MI := (yX6_add, cX6_add, 3, none, (0, 0, 0, 0), 22, k_X6_add)
set_option maxRecDepth 100000 in
theorem ok_X6_add : MOk m_X6_add := MOk.of (by decide +kernel) (fun _ => rfl)
theorem om_X6_add : okM m_X6_add = true := by decide +kernel
def k_X6_isIn (pc : Nat) : Ins := cond (Nat.ble 15 pc) nopI (cond (Nat.ble pc 4) (cond (Nat.ble pc 1) (cond (Nat.ble pc 0) (cond (Nat.beq pc 0) (.iload_n 0, 1, 1, 0, 0, 0) nopI) (cond (Nat.beq pc 1) (.iload_n 1, 1, 2, 0, 1, 0) nopI)) (cond (Nat.ble pc 2) (cond (Nat.beq pc 2) (.ishr, 1, 3, 0, 0, 0) nopI) (cond (Nat.ble pc 3) (cond (Nat.beq pc 3) (.iconst 1, 1, 4, 1, 0, 0) nopI) (cond (Nat.beq pc 4) (.iand, 1, 5, 0, 0, 0) nopI)))) (cond (Nat.ble pc 9) (cond (Nat.ble pc 5) (cond (Nat.beq pc 5) (.iconst 1, 1, 6, 1, 0, 0) nopI) (cond (Nat.ble pc 8) (cond (Nat.beq pc 6) (.if_icmp .ne 7, 3, 9, 0, 13, 0) nopI) (cond (Nat.beq pc 9) (.iconst 1, 1, 10, 1, 0, 0) nopI))) (cond (Nat.ble pc 12) (cond (Nat.beq pc 10) (.goto 4, 3, 13, 0, 14, 0) nopI) (cond (Nat.ble pc 13) (cond (Nat.beq pc 13) (.iconst 0, 1, 14, 0, 0, 0) nopI) (cond (Nat.beq pc 14) (.ireturn, 1, 15, 0, 0, 0) nopI)))))
def m_X6_isIn : MI := (yX6_isIn, cX6_isIn, 2, (some .boolean), (0, 0, 0, 0), 15, k_X6_isIn)
set_option maxRecDepth 100000 in
theorem ok_X6_isIn : MOk m_X6_isIn := MOk.of (by decide +kernel) (fun _ => rfl)
theorem om_X6_isIn : okM m_X6_isIn = true := by decide +kernel
def k_X6_emptiest (pc : Nat) : Ins := cond (Nat.ble 52 pc) nopI (cond (Nat.ble pc 26) (cond (Nat.ble pc 10) (cond (Nat.ble pc 3) (cond (Nat.ble pc 1) (cond (Nat.ble pc 0) (cond (Nat.beq pc 0) (.iconst (-1), 1, 1, -1, 0, 0) nopI) (cond (Nat.beq pc 1) (.istore_n 2, 1, 2, 0, 2, 0) nopI)) (cond (Nat.ble pc 2) (cond (Nat.beq pc 2) (.iconst 0, 1, 3, 0, 0, 0) nopI) (cond (Nat.beq pc 3) (.istore_n 3, 1, 4, 0, 3, 0) nopI))) (cond (Nat.ble pc 6) (cond (Nat.ble pc 4) (cond (Nat.beq pc 4) (.iload_n 3, 1, 5, 0, 3, 0) nopI) (cond (Nat.beq pc 5) (.bipush 8, 2, 7, 8, 0, 0) nopI)) (cond (Nat.ble pc 9) (cond (Nat.beq pc 7) (.if_icmp .ge 43, 3, 10, 0, 50, 0) nopI) (cond (Nat.beq pc 10) (.iload_n 1, 1, 11, 0, 1, 0) nopI)))) (cond (Nat.ble pc 18) (cond (Nat.ble pc 14) (cond (Nat.ble pc 11) (cond (Nat.beq pc 11) (.iload_n 3, 1, 12, 0, 3, 0) nopI) (cond (Nat.beq pc 12) (.invokestatic 27, 3, 15, 0, 0, 0) nopI)) (cond (Nat.ble pc 17) (cond (Nat.beq pc 15) (.ifCond .eq 29, 3, 18, 0, 44, 0) nopI) (cond (Nat.beq pc 18) (.iload_n 2, 1, 19, 0, 2, 0) nopI))) (cond (Nat.ble pc 22) (cond (Nat.ble pc 19) (cond (Nat.beq pc 19) (.iconst (-1), 1, 20, -1, 0, 0) nopI) (cond (Nat.beq pc 20) (.if_icmp .eq 22, 3, 23, 0, 42, 0) nopI)) (cond (Nat.ble pc 23) (cond (Nat.beq pc 23) (.aload_n 0, 1, 24, 0, 0, 0) nopI) (cond (Nat.beq pc 24) (.getfield 11, 3, 27, 0, 2, 0) nopI))))) (cond (Nat.ble pc 36) (cond (Nat.ble pc 30) (cond (Nat.ble pc 28) (cond (Nat.ble pc 27) (cond (Nat.beq pc 27) (.iconst 0, 1, 28, 0, 0, 0) nopI) (cond (Nat.beq pc 28) (.iload_n 3, 1, 29, 0, 3, 0) nopI)) (cond (Nat.ble pc 29) (cond (Nat.beq pc 29) (.iadd, 1, 30, 0, 0, 0) nopI) (cond (Nat.beq pc 30) (.iaload, 1, 31, 0, 0, 0) nopI))) (cond (Nat.ble pc 34) (cond (Nat.ble pc 31) (cond (Nat.beq pc 31) (.aload_n 0, 1, 32, 0, 0, 0) nopI) (cond (Nat.beq pc 32) (.getfield 11, 3, 35, 0, 2, 0) nopI)) (cond (Nat.ble pc 35) (cond (Nat.beq pc 35) (.iconst 0, 1, 36, 0, 0, 0) nopI) (cond (Nat.beq pc 36) (.iload_n 2, 1, 37, 0, 2, 0) nopI)))) (cond (Nat.ble pc 42) (cond (Nat.ble pc 38) (cond (Nat.ble pc 37) (cond (Nat.beq pc 37) (.iadd, 1, 38, 0, 0, 0) nopI) (cond (Nat.beq pc 38) (.iaload, 1, 39, 0, 0, 0) nopI)) (cond (Nat.ble pc 41) (cond (Nat.beq pc 39) (.if_icmp .ge 5, 3, 42, 0, 44, 0) nopI) (cond (Nat.beq pc 42) (.iload_n 3, 1, 43, 0, 3, 0) nopI))) (cond (Nat.ble pc 46) (cond (Nat.ble pc 43) (cond (Nat.beq pc 43) (.istore_n 2, 1, 44, 0, 2, 0) nopI) (cond (Nat.beq pc 44) (.iinc 3 1, 3, 47, 1, 3, 0) nopI)) (cond (Nat.ble pc 49) (cond (Nat.beq pc 47) (.goto (-43), 3, 50, 0, 4, 0) nopI) (cond (Nat.ble pc 50) (cond (Nat.beq pc 50) (.iload_n 2, 1, 51, 0, 2, 0) nopI) (cond (Nat.beq pc 51) (.ireturn, 1, 52, 0, 0, 0) nopI)))))))
def m_X6_emptiest : MI := (yX6_emptiest, cX6_emptiest, 4, (some .int), (1, 21, 0, 0), 52, k_X6_emptiest)
set_option maxRecDepth 100000 in
theorem ok_X6_emptiest : MOk m_X6_emptiest := MOk.of (by decide +kernel) (fun _ => rfl)
theorem om_X6_emptiest : okM m_X6_emptiest = true := by decide +kernel
def k_X6_weight (pc : Nat) : Ins := cond (Nat.ble 56 pc) nopI (cond (Nat.ble pc 28) (cond (Nat.ble pc 13) (cond (Nat.ble pc 5) (cond (Nat.ble pc 3) (cond (Nat.ble pc 2) (cond (Nat.beq pc 0) (.sipush 400, 3, 3, 400, 0, 0) nopI) (cond (Nat.beq pc 3) (.istore_n 1, 1, 4, 0, 1, 0) nopI)) (cond (Nat.ble pc 4) (cond (Nat.beq pc 4) (.iconst 0, 1, 5, 0, 0, 0) nopI) (cond (Nat.beq pc 5) (.istore_n 2, 1, 6, 0, 2, 0) nopI))) (cond (Nat.ble pc 8) (cond (Nat.ble pc 6) (cond (Nat.beq pc 6) (.iload_n 2, 1, 7, 0, 2, 0) nopI) (cond (Nat.beq pc 7) (.bipush 8, 2, 9, 8, 0, 0) nopI)) (cond (Nat.ble pc 11) (cond (Nat.beq pc 9) (.if_icmp .ge 20, 3, 12, 0, 29, 0) nopI) (cond (Nat.ble pc 12) (cond (Nat.beq pc 12) (.iload_n 1, 1, 13, 0, 1, 0) nopI) (cond (Nat.beq pc 13) (.aload_n 0, 1, 14, 0, 0, 0) nopI))))) (cond (Nat.ble pc 19) (cond (Nat.ble pc 17) (cond (Nat.ble pc 16) (cond (Nat.beq pc 14) (.getfield 11, 3, 17, 0, 2, 0) nopI) (cond (Nat.beq pc 17) (.iconst 0, 1, 18, 0, 0, 0) nopI)) (cond (Nat.ble pc 18) (cond (Nat.beq pc 18) (.iload_n 2, 1, 19, 0, 2, 0) nopI) (cond (Nat.beq pc 19) (.iadd, 1, 20, 0, 0, 0) nopI))) (cond (Nat.ble pc 21) (cond (Nat.ble pc 20) (cond (Nat.beq pc 20) (.iaload, 1, 21, 0, 0, 0) nopI) (cond (Nat.beq pc 21) (.iadd, 1, 22, 0, 0, 0) nopI)) (cond (Nat.ble pc 22) (cond (Nat.beq pc 22) (.istore_n 1, 1, 23, 0, 1, 0) nopI) (cond (Nat.ble pc 25) (cond (Nat.beq pc 23) (.iinc 2 1, 3, 26, 1, 2, 0) nopI) (cond (Nat.beq pc 26) (.goto (-20), 3, 29, 0, 6, 0) nopI)))))) (cond (Nat.ble pc 42) (cond (Nat.ble pc 32) (cond (Nat.ble pc 30) (cond (Nat.ble pc 29) (cond (Nat.beq pc 29) (.iconst 0, 1, 30, 0, 0, 0) nopI) (cond (Nat.beq pc 30) (.istore_n 2, 1, 31, 0, 2, 0) nopI)) (cond (Nat.ble pc 31) (cond (Nat.beq pc 31) (.iload_n 2, 1, 32, 0, 2, 0) nopI) (cond (Nat.beq pc 32) (.iconst 3, 1, 33, 3, 0, 0) nopI))) (cond (Nat.ble pc 36) (cond (Nat.ble pc 35) (cond (Nat.beq pc 33) (.if_icmp .ge 21, 3, 36, 0, 54, 0) nopI) (cond (Nat.beq pc 36) (.iload_n 1, 1, 37, 0, 1, 0) nopI)) (cond (Nat.ble pc 37) (cond (Nat.beq pc 37) (.aload_n 0, 1, 38, 0, 0, 0) nopI) (cond (Nat.ble pc 40) (cond (Nat.beq pc 38) (.getfield 11, 3, 41, 0, 2, 0) nopI) (cond (Nat.beq pc 41) (.bipush 112, 2, 43, 112, 0, 0) nopI))))) (cond (Nat.ble pc 46) (cond (Nat.ble pc 44) (cond (Nat.ble pc 43) (cond (Nat.beq pc 43) (.iload_n 2, 1, 44, 0, 2, 0) nopI) (cond (Nat.beq pc 44) (.iadd, 1, 45, 0, 0, 0) nopI)) (cond (Nat.ble pc 45) (cond (Nat.beq pc 45) (.iaload, 1, 46, 0, 0, 0) nopI) (cond (Nat.beq pc 46) (.iadd, 1, 47, 0, 0, 0) nopI))) (cond (Nat.ble pc 50) (cond (Nat.ble pc 47) (cond (Nat.beq pc 47) (.istore_n 1, 1, 48, 0, 1, 0) nopI) (cond (Nat.beq pc 48) (.iinc 2 1, 3, 51, 1, 2, 0) nopI)) (cond (Nat.ble pc 53) (cond (Nat.beq pc 51) (.goto (-20), 3, 54, 0, 31, 0) nopI) (cond (Nat.ble pc 54) (cond (Nat.beq pc 54) (.iload_n 1, 1, 55, 0, 1, 0) nopI) (cond (Nat.beq pc 55) (.ireturn, 1, 56, 0, 0, 0) nopI)))))))
def m_X6_weight : MI := (yX6_weight, cX6_weight, 3, (some .int), (0, 0, 0, 0), 56, k_X6_weight)
set_option maxRecDepth 100000 in
theorem ok_X6_weight : MOk m_X6_weight := MOk.of (by decide +kernel) (fun _ => rfl)
theorem om_X6_weight : okM m_X6_weight = true := by decide +kernel
def k_X6_draughtOf (pc : Nat) : Ins := cond (Nat.ble 5 pc) nopI (cond (Nat.ble pc 2) (cond (Nat.ble pc 0) (cond (Nat.beq pc 0) (.iload_n 0, 1, 1, 0, 0, 0) nopI) (cond (Nat.beq pc 1) (.bipush 10, 2, 3, 10, 0, 0) nopI)) (cond (Nat.ble pc 3) (cond (Nat.beq pc 3) (.idiv, 1, 4, 0, 0, 0) nopI) (cond (Nat.beq pc 4) (.ireturn, 1, 5, 0, 0, 0) nopI)))
def m_X6_draughtOf : MI := (yX6_draughtOf, cX6_draughtOf, 1, (some .int), (0, 0, 0, 0), 5, k_X6_draughtOf)
set_option maxRecDepth 100000 in
theorem ok_X6_draughtOf : MOk m_X6_draughtOf := MOk.of (by decide +kernel) (fun _ => rfl)
theorem om_X6_draughtOf : okM m_X6_draughtOf = true := by decide +kernel
def k_X4_tankToFill (pc : Nat) : Ins := cond (Nat.ble 52 pc) nopI (cond (Nat.ble pc 23) (cond (Nat.ble pc 10) (cond (Nat.ble pc 4) (cond (Nat.ble pc 0) (cond (Nat.beq pc 0) (.aload_n 0, 1, 1, 0, 0, 0) nopI) (cond (Nat.ble pc 1) (cond (Nat.beq pc 1) (.iload_n 1, 1, 2, 0, 1, 0) nopI) (cond (Nat.beq pc 2) (.invokevirtual 9, 3, 5, 0, 0, 0) nopI))) (cond (Nat.ble pc 6) (cond (Nat.ble pc 5) (cond (Nat.beq pc 5) (.istore_n 2, 1, 6, 0, 2, 0) nopI) (cond (Nat.beq pc 6) (.iload_n 2, 1, 7, 0, 2, 0) nopI)) (cond (Nat.ble pc 7) (cond (Nat.beq pc 7) (.iconst (-1), 1, 8, -1, 0, 0) nopI) (cond (Nat.beq pc 8) (.if_icmp .eq 15, 3, 11, 0, 23, 0) nopI)))) (cond (Nat.ble pc 14) (cond (Nat.ble pc 12) (cond (Nat.ble pc 11) (cond (Nat.beq pc 11) (.aload_n 0, 1, 12, 0, 0, 0) nopI) (cond (Nat.beq pc 12) (.iconst 0, 1, 13, 0, 0, 0) nopI)) (cond (Nat.ble pc 13) (cond (Nat.beq pc 13) (.iload_n 2, 1, 14, 0, 2, 0) nopI) (cond (Nat.beq pc 14) (.iadd, 1, 15, 0, 0, 0) nopI))) (cond (Nat.ble pc 19) (cond (Nat.ble pc 17) (cond (Nat.beq pc 15) (.invokevirtual 15, 3, 18, 0, 0, 0) nopI) (cond (Nat.beq pc 18) (.bipush 100, 2, 20, 100, 0, 0) nopI)) (cond (Nat.ble pc 22) (cond (Nat.beq pc 20) (.if_icmp .lt 5, 3, 23, 0, 25, 0) nopI) (cond (Nat.beq pc 23) (.iconst (-1), 1, 24, -1, 0, 0) nopI))))) (cond (Nat.ble pc 35) (cond (Nat.ble pc 29) (cond (Nat.ble pc 25) (cond (Nat.ble pc 24) (cond (Nat.beq pc 24) (.ireturn, 1, 25, 0, 0, 0) nopI) (cond (Nat.beq pc 25) (.aload_n 0, 1, 26, 0, 0, 0) nopI)) (cond (Nat.ble pc 28) (cond (Nat.beq pc 26) (.invokevirtual 18, 3, 29, 0, 0, 0) nopI) (cond (Nat.beq pc 29) (.iconst 1, 1, 30, 1, 0, 0) nopI))) (cond (Nat.ble pc 33) (cond (Nat.ble pc 30) (cond (Nat.beq pc 30) (.iadd, 1, 31, 0, 0, 0) nopI) (cond (Nat.beq pc 31) (.invokestatic 22, 3, 34, 0, 0, 0) nopI)) (cond (Nat.ble pc 34) (cond (Nat.beq pc 34) (.istore_n 3, 1, 35, 0, 3, 0) nopI) (cond (Nat.beq pc 35) (.iload_n 3, 1, 36, 0, 3, 0) nopI)))) (cond (Nat.ble pc 45) (cond (Nat.ble pc 39) (cond (Nat.ble pc 36) (cond (Nat.beq pc 36) (.aload_n 0, 1, 37, 0, 0, 0) nopI) (cond (Nat.beq pc 37) (.sipush 130, 3, 40, 130, 0, 0) nopI)) (cond (Nat.ble pc 42) (cond (Nat.beq pc 40) (.invokevirtual 15, 3, 43, 0, 0, 0) nopI) (cond (Nat.beq pc 43) (.if_icmp .le 7, 3, 46, 0, 50, 0) nopI))) (cond (Nat.ble pc 49) (cond (Nat.ble pc 46) (cond (Nat.beq pc 46) (.iconst (-1), 1, 47, -1, 0, 0) nopI) (cond (Nat.beq pc 47) (.goto 4, 3, 50, 0, 51, 0) nopI)) (cond (Nat.ble pc 50) (cond (Nat.beq pc 50) (.iload_n 2, 1, 51, 0, 2, 0) nopI) (cond (Nat.beq pc 51) (.ireturn, 1, 52, 0, 0, 0) nopI))))))
def m_X4_tankToFill : MI := (yX4_tankToFill, cX4_tankToFill, 4, (some .int), (2, 44, 0, 0), 52, k_X4_tankToFill)
set_option maxRecDepth 100000 in
theorem ok_X4_tankToFill : MOk m_X4_tankToFill := MOk.of (by decide +kernel) (fun _ => rfl)
theorem om_X4_tankToFill : okM m_X4_tankToFill = true := by decide +kernel
def k_X4_moveBy (pc : Nat) : Ins := cond (Nat.ble 18 pc) nopI (cond (Nat.ble pc 7) (cond (Nat.ble pc 2) (cond (Nat.ble pc 0) (cond (Nat.beq pc 0) (.aload_n 0, 1, 1, 0, 0, 0) nopI) (cond (Nat.ble pc 1) (cond (Nat.beq pc 1) (.iconst 0, 1, 2, 0, 0, 0) nopI) (cond (Nat.beq pc 2) (.iload_n 1, 1, 3, 0, 1, 0) nopI))) (cond (Nat.ble pc 3) (cond (Nat.beq pc 3) (.iadd, 1, 4, 0, 0, 0) nopI) (cond (Nat.ble pc 4) (cond (Nat.beq pc 4) (.iload_n 2, 1, 5, 0, 2, 0) nopI) (cond (Nat.beq pc 5) (.invokevirtual 55, 3, 8, 0, 0, 0) nopI)))) (cond (Nat.ble pc 11) (cond (Nat.ble pc 8) (cond (Nat.beq pc 8) (.aload_n 0, 1, 9, 0, 0, 0) nopI) (cond (Nat.ble pc 10) (cond (Nat.beq pc 9) (.bipush 24, 2, 11, 24, 0, 0) nopI) (cond (Nat.beq pc 11) (.iload_n 1, 1, 12, 0, 1, 0) nopI))) (cond (Nat.ble pc 13) (cond (Nat.ble pc 12) (cond (Nat.beq pc 12) (.iadd, 1, 13, 0, 0, 0) nopI) (cond (Nat.beq pc 13) (.iconst 1, 1, 14, 1, 0, 0) nopI)) (cond (Nat.ble pc 16) (cond (Nat.beq pc 14) (.invokevirtual 55, 3, 17, 0, 0, 0) nopI) (cond (Nat.beq pc 17) (.return_, 1, 18, 0, 0, 0) nopI)))))
def m_X4_moveBy : MI := (yX4_moveBy, cX4_moveBy, 3, none, (1, 22, 0, 0), 18, k_X4_moveBy)
set_option maxRecDepth 100000 in
theorem ok_X4_moveBy : MOk m_X4_moveBy := MOk.of (by decide +kernel) (fun _ => rfl)
theorem om_X4_moveBy : okM m_X4_moveBy = true := by decide +kernel
def k_X4_fillUnit (pc : Nat) : Ins := cond (Nat.ble 23 pc) nopI (cond (Nat.ble pc 8) (cond (Nat.ble pc 4) (cond (Nat.ble pc 0) (cond (Nat.beq pc 0) (.iload_n 1, 1, 1, 0, 1, 0) nopI) (cond (Nat.ble pc 1) (cond (Nat.beq pc 1) (.iconst (-1), 1, 2, -1, 0, 0) nopI) (cond (Nat.beq pc 2) (.if_icmp .ne 5, 3, 5, 0, 7, 0) nopI))) (cond (Nat.ble pc 6) (cond (Nat.ble pc 5) (cond (Nat.beq pc 5) (.iconst 0, 1, 6, 0, 0, 0) nopI) (cond (Nat.beq pc 6) (.ireturn, 1, 7, 0, 0, 0) nopI)) (cond (Nat.ble pc 7) (cond (Nat.beq pc 7) (.aload_n 0, 1, 8, 0, 0, 0) nopI) (cond (Nat.beq pc 8) (.iload_n 1, 1, 9, 0, 1, 0) nopI)))) (cond (Nat.ble pc 16) (cond (Nat.ble pc 12) (cond (Nat.ble pc 9) (cond (Nat.beq pc 9) (.iconst 1, 1, 10, 1, 0, 0) nopI) (cond (Nat.beq pc 10) (.invokestatic 51, 3, 13, 0, 0, 0) nopI)) (cond (Nat.ble pc 13) (cond (Nat.beq pc 13) (.aload_n 0, 1, 14, 0, 0, 0) nopI) (cond (Nat.beq pc 14) (.sipush 157, 3, 17, 157, 0, 0) nopI))) (cond (Nat.ble pc 20) (cond (Nat.ble pc 17) (cond (Nat.beq pc 17) (.iconst 1, 1, 18, 1, 0, 0) nopI) (cond (Nat.beq pc 18) (.invokevirtual 55, 3, 21, 0, 0, 0) nopI)) (cond (Nat.ble pc 21) (cond (Nat.beq pc 21) (.iconst 1, 1, 22, 1, 0, 0) nopI) (cond (Nat.beq pc 22) (.ireturn, 1, 23, 0, 0, 0) nopI)))))
def m_X4_fillUnit : MI := (yX4_fillUnit, cX4_fillUnit, 2, (some .boolean), (2, 44, 0, 0), 23, k_X4_fillUnit)
set_option maxRecDepth 100000 in
theorem ok_X4_fillUnit : MOk m_X4_fillUnit := MOk.of (by decide +kernel) (fun _ => rfl)
theorem om_X4_fillUnit : okM m_X4_fillUnit = true := by decide +kernel
def k_X6_fullest (pc : Nat) : Ins := cond (Nat.ble 52 pc) nopI (cond (Nat.ble pc 26) (cond (Nat.ble pc 10) (cond (Nat.ble pc 3) (cond (Nat.ble pc 1) (cond (Nat.ble pc 0) (cond (Nat.beq pc 0) (.iconst (-1), 1, 1, -1, 0, 0) nopI) (cond (Nat.beq pc 1) (.istore_n 2, 1, 2, 0, 2, 0) nopI)) (cond (Nat.ble pc 2) (cond (Nat.beq pc 2) (.iconst 0, 1, 3, 0, 0, 0) nopI) (cond (Nat.beq pc 3) (.istore_n 3, 1, 4, 0, 3, 0) nopI))) (cond (Nat.ble pc 6) (cond (Nat.ble pc 4) (cond (Nat.beq pc 4) (.iload_n 3, 1, 5, 0, 3, 0) nopI) (cond (Nat.beq pc 5) (.bipush 8, 2, 7, 8, 0, 0) nopI)) (cond (Nat.ble pc 9) (cond (Nat.beq pc 7) (.if_icmp .ge 43, 3, 10, 0, 50, 0) nopI) (cond (Nat.beq pc 10) (.iload_n 1, 1, 11, 0, 1, 0) nopI)))) (cond (Nat.ble pc 18) (cond (Nat.ble pc 14) (cond (Nat.ble pc 11) (cond (Nat.beq pc 11) (.iload_n 3, 1, 12, 0, 3, 0) nopI) (cond (Nat.beq pc 12) (.invokestatic 27, 3, 15, 0, 0, 0) nopI)) (cond (Nat.ble pc 17) (cond (Nat.beq pc 15) (.ifCond .eq 29, 3, 18, 0, 44, 0) nopI) (cond (Nat.beq pc 18) (.iload_n 2, 1, 19, 0, 2, 0) nopI))) (cond (Nat.ble pc 22) (cond (Nat.ble pc 19) (cond (Nat.beq pc 19) (.iconst (-1), 1, 20, -1, 0, 0) nopI) (cond (Nat.beq pc 20) (.if_icmp .eq 22, 3, 23, 0, 42, 0) nopI)) (cond (Nat.ble pc 23) (cond (Nat.beq pc 23) (.aload_n 0, 1, 24, 0, 0, 0) nopI) (cond (Nat.beq pc 24) (.getfield 11, 3, 27, 0, 2, 0) nopI))))) (cond (Nat.ble pc 36) (cond (Nat.ble pc 30) (cond (Nat.ble pc 28) (cond (Nat.ble pc 27) (cond (Nat.beq pc 27) (.iconst 0, 1, 28, 0, 0, 0) nopI) (cond (Nat.beq pc 28) (.iload_n 3, 1, 29, 0, 3, 0) nopI)) (cond (Nat.ble pc 29) (cond (Nat.beq pc 29) (.iadd, 1, 30, 0, 0, 0) nopI) (cond (Nat.beq pc 30) (.iaload, 1, 31, 0, 0, 0) nopI))) (cond (Nat.ble pc 34) (cond (Nat.ble pc 31) (cond (Nat.beq pc 31) (.aload_n 0, 1, 32, 0, 0, 0) nopI) (cond (Nat.beq pc 32) (.getfield 11, 3, 35, 0, 2, 0) nopI)) (cond (Nat.ble pc 35) (cond (Nat.beq pc 35) (.iconst 0, 1, 36, 0, 0, 0) nopI) (cond (Nat.beq pc 36) (.iload_n 2, 1, 37, 0, 2, 0) nopI)))) (cond (Nat.ble pc 42) (cond (Nat.ble pc 38) (cond (Nat.ble pc 37) (cond (Nat.beq pc 37) (.iadd, 1, 38, 0, 0, 0) nopI) (cond (Nat.beq pc 38) (.iaload, 1, 39, 0, 0, 0) nopI)) (cond (Nat.ble pc 41) (cond (Nat.beq pc 39) (.if_icmp .le 5, 3, 42, 0, 44, 0) nopI) (cond (Nat.beq pc 42) (.iload_n 3, 1, 43, 0, 3, 0) nopI))) (cond (Nat.ble pc 46) (cond (Nat.ble pc 43) (cond (Nat.beq pc 43) (.istore_n 2, 1, 44, 0, 2, 0) nopI) (cond (Nat.beq pc 44) (.iinc 3 1, 3, 47, 1, 3, 0) nopI)) (cond (Nat.ble pc 49) (cond (Nat.beq pc 47) (.goto (-43), 3, 50, 0, 4, 0) nopI) (cond (Nat.ble pc 50) (cond (Nat.beq pc 50) (.iload_n 2, 1, 51, 0, 2, 0) nopI) (cond (Nat.beq pc 51) (.ireturn, 1, 52, 0, 0, 0) nopI)))))))
def m_X6_fullest : MI := (yX6_fullest, cX6_fullest, 4, (some .int), (1, 21, 0, 0), 52, k_X6_fullest)
set_option maxRecDepth 100000 in
theorem ok_X6_fullest : MOk m_X6_fullest := MOk.of (by decide +kernel) (fun _ => rfl)
theorem om_X6_fullest : okM m_X6_fullest = true := by decide +kernel
def k_X4_tankToEmpty (pc : Nat) : Ins := cond (Nat.ble 27 pc) nopI (cond (Nat.ble pc 11) (cond (Nat.ble pc 5) (cond (Nat.ble pc 1) (cond (Nat.ble pc 0) (cond (Nat.beq pc 0) (.aload_n 0, 1, 1, 0, 0, 0) nopI) (cond (Nat.beq pc 1) (.iload_n 1, 1, 2, 0, 1, 0) nopI)) (cond (Nat.ble pc 4) (cond (Nat.beq pc 2) (.invokevirtual 25, 3, 5, 0, 0, 0) nopI) (cond (Nat.beq pc 5) (.istore_n 2, 1, 6, 0, 2, 0) nopI))) (cond (Nat.ble pc 7) (cond (Nat.ble pc 6) (cond (Nat.beq pc 6) (.iload_n 2, 1, 7, 0, 2, 0) nopI) (cond (Nat.beq pc 7) (.iconst (-1), 1, 8, -1, 0, 0) nopI)) (cond (Nat.ble pc 10) (cond (Nat.beq pc 8) (.if_icmp .eq 13, 3, 11, 0, 21, 0) nopI) (cond (Nat.beq pc 11) (.aload_n 0, 1, 12, 0, 0, 0) nopI)))) (cond (Nat.ble pc 17) (cond (Nat.ble pc 13) (cond (Nat.ble pc 12) (cond (Nat.beq pc 12) (.iconst 0, 1, 13, 0, 0, 0) nopI) (cond (Nat.beq pc 13) (.iload_n 2, 1, 14, 0, 2, 0) nopI)) (cond (Nat.ble pc 14) (cond (Nat.beq pc 14) (.iadd, 1, 15, 0, 0, 0) nopI) (cond (Nat.beq pc 15) (.invokevirtual 15, 3, 18, 0, 0, 0) nopI))) (cond (Nat.ble pc 21) (cond (Nat.ble pc 20) (cond (Nat.beq pc 18) (.ifCond .gt 7, 3, 21, 0, 25, 0) nopI) (cond (Nat.beq pc 21) (.iconst (-1), 1, 22, -1, 0, 0) nopI)) (cond (Nat.ble pc 24) (cond (Nat.beq pc 22) (.goto 4, 3, 25, 0, 26, 0) nopI) (cond (Nat.ble pc 25) (cond (Nat.beq pc 25) (.iload_n 2, 1, 26, 0, 2, 0) nopI) (cond (Nat.beq pc 26) (.ireturn, 1, 27, 0, 0, 0) nopI))))))
def m_X4_tankToEmpty : MI := (yX4_tankToEmpty, cX4_tankToEmpty, 3, (some .int), (2, 44, 0, 0), 27, k_X4_tankToEmpty)
set_option maxRecDepth 100000 in
theorem ok_X4_tankToEmpty : MOk m_X4_tankToEmpty := MOk.of (by decide +kernel) (fun _ => rfl)
theorem om_X4_tankToEmpty : okM m_X4_tankToEmpty = true := by decide +kernel
def k_X4_emptyUnit (pc : Nat) : Ins := cond (Nat.ble 23 pc) nopI (cond (Nat.ble pc 8) (cond (Nat.ble pc 4) (cond (Nat.ble pc 0) (cond (Nat.beq pc 0) (.iload_n 1, 1, 1, 0, 1, 0) nopI) (cond (Nat.ble pc 1) (cond (Nat.beq pc 1) (.iconst (-1), 1, 2, -1, 0, 0) nopI) (cond (Nat.beq pc 2) (.if_icmp .ne 5, 3, 5, 0, 7, 0) nopI))) (cond (Nat.ble pc 6) (cond (Nat.ble pc 5) (cond (Nat.beq pc 5) (.iconst 0, 1, 6, 0, 0, 0) nopI) (cond (Nat.beq pc 6) (.ireturn, 1, 7, 0, 0, 0) nopI)) (cond (Nat.ble pc 7) (cond (Nat.beq pc 7) (.aload_n 0, 1, 8, 0, 0, 0) nopI) (cond (Nat.beq pc 8) (.iload_n 1, 1, 9, 0, 1, 0) nopI)))) (cond (Nat.ble pc 16) (cond (Nat.ble pc 12) (cond (Nat.ble pc 9) (cond (Nat.beq pc 9) (.iconst (-1), 1, 10, -1, 0, 0) nopI) (cond (Nat.beq pc 10) (.invokestatic 51, 3, 13, 0, 0, 0) nopI)) (cond (Nat.ble pc 13) (cond (Nat.beq pc 13) (.aload_n 0, 1, 14, 0, 0, 0) nopI) (cond (Nat.beq pc 14) (.sipush 158, 3, 17, 158, 0, 0) nopI))) (cond (Nat.ble pc 20) (cond (Nat.ble pc 17) (cond (Nat.beq pc 17) (.iconst 1, 1, 18, 1, 0, 0) nopI) (cond (Nat.beq pc 18) (.invokevirtual 55, 3, 21, 0, 0, 0) nopI)) (cond (Nat.ble pc 21) (cond (Nat.beq pc 21) (.iconst 1, 1, 22, 1, 0, 0) nopI) (cond (Nat.beq pc 22) (.ireturn, 1, 23, 0, 0, 0) nopI)))))
def m_X4_emptyUnit : MI := (yX4_emptyUnit, cX4_emptyUnit, 2, (some .boolean), (2, 44, 0, 0), 23, k_X4_emptyUnit)
set_option maxRecDepth 100000 in
theorem ok_X4_emptyUnit : MOk m_X4_emptyUnit := MOk.of (by decide +kernel) (fun _ => rfl)
theorem om_X4_emptyUnit : okM m_X4_emptyUnit = true := by decide +kernel
def k_X4_tankToLower (pc : Nat) : Ins := cond (Nat.ble 53 pc) nopI (cond (Nat.ble pc 24) (cond (Nat.ble pc 11) (cond (Nat.ble pc 5) (cond (Nat.ble pc 1) (cond (Nat.ble pc 0) (cond (Nat.beq pc 0) (.aload_n 0, 1, 1, 0, 0, 0) nopI) (cond (Nat.beq pc 1) (.iload_n 1, 1, 2, 0, 1, 0) nopI)) (cond (Nat.ble pc 4) (cond (Nat.beq pc 2) (.invokevirtual 25, 3, 5, 0, 0, 0) nopI) (cond (Nat.beq pc 5) (.istore_n 2, 1, 6, 0, 2, 0) nopI))) (cond (Nat.ble pc 7) (cond (Nat.ble pc 6) (cond (Nat.beq pc 6) (.aload_n 0, 1, 7, 0, 0, 0) nopI) (cond (Nat.beq pc 7) (.iload_n 1, 1, 8, 0, 1, 0) nopI)) (cond (Nat.ble pc 10) (cond (Nat.beq pc 8) (.invokevirtual 9, 3, 11, 0, 0, 0) nopI) (cond (Nat.beq pc 11) (.istore_n 3, 1, 12, 0, 3, 0) nopI)))) (cond (Nat.ble pc 17) (cond (Nat.ble pc 13) (cond (Nat.ble pc 12) (cond (Nat.beq pc 12) (.iload_n 2, 1, 13, 0, 2, 0) nopI) (cond (Nat.beq pc 13) (.iconst (-1), 1, 14, -1, 0, 0) nopI)) (cond (Nat.ble pc 16) (cond (Nat.beq pc 14) (.if_icmp .eq 8, 3, 17, 0, 22, 0) nopI) (cond (Nat.beq pc 17) (.iload_n 3, 1, 18, 0, 3, 0) nopI))) (cond (Nat.ble pc 21) (cond (Nat.ble pc 18) (cond (Nat.beq pc 18) (.iconst (-1), 1, 19, -1, 0, 0) nopI) (cond (Nat.beq pc 19) (.if_icmp .ne 5, 3, 22, 0, 24, 0) nopI)) (cond (Nat.ble pc 22) (cond (Nat.beq pc 22) (.iconst (-1), 1, 23, -1, 0, 0) nopI) (cond (Nat.ble pc 23) (cond (Nat.beq pc 23) (.ireturn, 1, 24, 0, 0, 0) nopI) (cond (Nat.beq pc 24) (.aload_n 0, 1, 25, 0, 0, 0) nopI)))))) (cond (Nat.ble pc 37) (cond (Nat.ble pc 30) (cond (Nat.ble pc 26) (cond (Nat.ble pc 25) (cond (Nat.beq pc 25) (.iconst 0, 1, 26, 0, 0, 0) nopI) (cond (Nat.beq pc 26) (.iload_n 2, 1, 27, 0, 2, 0) nopI)) (cond (Nat.ble pc 27) (cond (Nat.beq pc 27) (.iadd, 1, 28, 0, 0, 0) nopI) (cond (Nat.beq pc 28) (.invokevirtual 15, 3, 31, 0, 0, 0) nopI))) (cond (Nat.ble pc 32) (cond (Nat.ble pc 31) (cond (Nat.beq pc 31) (.aload_n 0, 1, 32, 0, 0, 0) nopI) (cond (Nat.beq pc 32) (.iconst 0, 1, 33, 0, 0, 0) nopI)) (cond (Nat.ble pc 33) (cond (Nat.beq pc 33) (.iload_n 3, 1, 34, 0, 3, 0) nopI) (cond (Nat.ble pc 34) (cond (Nat.beq pc 34) (.iadd, 1, 35, 0, 0, 0) nopI) (cond (Nat.beq pc 35) (.invokevirtual 15, 3, 38, 0, 0, 0) nopI))))) (cond (Nat.ble pc 43) (cond (Nat.ble pc 40) (cond (Nat.ble pc 38) (cond (Nat.beq pc 38) (.isub, 1, 39, 0, 0, 0) nopI) (cond (Nat.beq pc 39) (.istore 4, 2, 41, 0, 4, 0) nopI)) (cond (Nat.ble pc 42) (cond (Nat.beq pc 41) (.iload 4, 2, 43, 0, 4, 0) nopI) (cond (Nat.beq pc 43) (.iconst 2, 1, 44, 2, 0, 0) nopI))) (cond (Nat.ble pc 47) (cond (Nat.ble pc 46) (cond (Nat.beq pc 44) (.if_icmp .lt 7, 3, 47, 0, 51, 0) nopI) (cond (Nat.beq pc 47) (.iload_n 2, 1, 48, 0, 2, 0) nopI)) (cond (Nat.ble pc 50) (cond (Nat.beq pc 48) (.goto 4, 3, 51, 0, 52, 0) nopI) (cond (Nat.ble pc 51) (cond (Nat.beq pc 51) (.iconst (-1), 1, 52, -1, 0, 0) nopI) (cond (Nat.beq pc 52) (.ireturn, 1, 53, 0, 0, 0) nopI)))))))
def m_X4_tankToLower : MI := (yX4_tankToLower, cX4_tankToLower, 5, (some .int), (2, 44, 0, 0), 53, k_X4_tankToLower)
set_option maxRecDepth 100000 in
theorem ok_X4_tankToLower : MOk m_X4_tankToLower := MOk.of (by decide +kernel) (fun _ => rfl)
theorem om_X4_tankToLower : okM m_X4_tankToLower = true := by decide +kernel
def k_X4_levelUnit (pc : Nat) : Ins := cond (Nat.ble 34 pc) nopI (cond (Nat.ble pc 14) (cond (Nat.ble pc 6) (cond (Nat.ble pc 1) (cond (Nat.ble pc 0) (cond (Nat.beq pc 0) (.iload_n 1, 1, 1, 0, 1, 0) nopI) (cond (Nat.beq pc 1) (.iconst (-1), 1, 2, -1, 0, 0) nopI)) (cond (Nat.ble pc 4) (cond (Nat.beq pc 2) (.if_icmp .eq 8, 3, 5, 0, 10, 0) nopI) (cond (Nat.ble pc 5) (cond (Nat.beq pc 5) (.iload_n 2, 1, 6, 0, 2, 0) nopI) (cond (Nat.beq pc 6) (.iconst (-1), 1, 7, -1, 0, 0) nopI)))) (cond (Nat.ble pc 11) (cond (Nat.ble pc 9) (cond (Nat.beq pc 7) (.if_icmp .ne 5, 3, 10, 0, 12, 0) nopI) (cond (Nat.ble pc 10) (cond (Nat.beq pc 10) (.iconst 0, 1, 11, 0, 0, 0) nopI) (cond (Nat.beq pc 11) (.ireturn, 1, 12, 0, 0, 0) nopI))) (cond (Nat.ble pc 12) (cond (Nat.beq pc 12) (.aload_n 0, 1, 13, 0, 0, 0) nopI) (cond (Nat.ble pc 13) (cond (Nat.beq pc 13) (.iload_n 1, 1, 14, 0, 1, 0) nopI) (cond (Nat.beq pc 14) (.iconst (-1), 1, 15, -1, 0, 0) nopI))))) (cond (Nat.ble pc 23) (cond (Nat.ble pc 18) (cond (Nat.ble pc 17) (cond (Nat.beq pc 15) (.invokestatic 51, 3, 18, 0, 0, 0) nopI) (cond (Nat.beq pc 18) (.aload_n 0, 1, 19, 0, 0, 0) nopI)) (cond (Nat.ble pc 19) (cond (Nat.beq pc 19) (.iload_n 2, 1, 20, 0, 2, 0) nopI) (cond (Nat.ble pc 20) (cond (Nat.beq pc 20) (.iconst 1, 1, 21, 1, 0, 0) nopI) (cond (Nat.beq pc 21) (.invokestatic 51, 3, 24, 0, 0, 0) nopI)))) (cond (Nat.ble pc 28) (cond (Nat.ble pc 24) (cond (Nat.beq pc 24) (.aload_n 0, 1, 25, 0, 0, 0) nopI) (cond (Nat.ble pc 27) (cond (Nat.beq pc 25) (.sipush 159, 3, 28, 159, 0, 0) nopI) (cond (Nat.beq pc 28) (.iconst 1, 1, 29, 1, 0, 0) nopI))) (cond (Nat.ble pc 31) (cond (Nat.beq pc 29) (.invokevirtual 55, 3, 32, 0, 0, 0) nopI) (cond (Nat.ble pc 32) (cond (Nat.beq pc 32) (.iconst 1, 1, 33, 1, 0, 0) nopI) (cond (Nat.beq pc 33) (.ireturn, 1, 34, 0, 0, 0) nopI))))))
def m_X4_levelUnit : MI := (yX4_levelUnit, cX4_levelUnit, 3, (some .boolean), (2, 44, 0, 0), 34, k_X4_levelUnit)
set_option maxRecDepth 100000 in
theorem ok_X4_levelUnit : MOk m_X4_levelUnit := MOk.of (by decide +kernel) (fun _ => rfl)
theorem om_X4_levelUnit : okM m_X4_levelUnit = true := by decide +kernel
def k_X4_moveUnit (pc : Nat) : Ins := cond (Nat.ble 65 pc) nopI (cond (Nat.ble pc 43) (cond (Nat.ble pc 33) (cond (Nat.ble pc 28) (cond (Nat.ble pc 0) (cond (Nat.beq pc 0) (.iload_n 1, 1, 1, 0, 1, 0) nopI) (cond (Nat.ble pc 27) (cond (Nat.beq pc 1) (.tableswitch 62 2 4 #[27, 37, 47], 27, 28, 0, 0, 0) nopI) (cond (Nat.beq pc 28) (.aload_n 0, 1, 29, 0, 0, 0) nopI))) (cond (Nat.ble pc 29) (cond (Nat.beq pc 29) (.aload_n 0, 1, 30, 0, 0, 0) nopI) (cond (Nat.ble pc 30) (cond (Nat.beq pc 30) (.iload_n 2, 1, 31, 0, 2, 0) nopI) (cond (Nat.beq pc 31) (.invokestatic 28, 3, 34, 0, 0, 0) nopI)))) (cond (Nat.ble pc 38) (cond (Nat.ble pc 36) (cond (Nat.beq pc 34) (.invokestatic 34, 3, 37, 0, 0, 0) nopI) (cond (Nat.ble pc 37) (cond (Nat.beq pc 37) (.ireturn, 1, 38, 0, 0, 0) nopI) (cond (Nat.beq pc 38) (.aload_n 0, 1, 39, 0, 0, 0) nopI))) (cond (Nat.ble pc 39) (cond (Nat.beq pc 39) (.aload_n 0, 1, 40, 0, 0, 0) nopI) (cond (Nat.ble pc 40) (cond (Nat.beq pc 40) (.iload_n 2, 1, 41, 0, 2, 0) nopI) (cond (Nat.beq pc 41) (.invokestatic 38, 3, 44, 0, 0, 0) nopI))))) (cond (Nat.ble pc 53) (cond (Nat.ble pc 48) (cond (Nat.ble pc 46) (cond (Nat.beq pc 44) (.invokestatic 41, 3, 47, 0, 0, 0) nopI) (cond (Nat.ble pc 47) (cond (Nat.beq pc 47) (.ireturn, 1, 48, 0, 0, 0) nopI) (cond (Nat.beq pc 48) (.aload_n 0, 1, 49, 0, 0, 0) nopI))) (cond (Nat.ble pc 49) (cond (Nat.beq pc 49) (.aload_n 0, 1, 50, 0, 0, 0) nopI) (cond (Nat.ble pc 50) (cond (Nat.beq pc 50) (.iload_n 2, 1, 51, 0, 2, 0) nopI) (cond (Nat.beq pc 51) (.invokestatic 44, 3, 54, 0, 0, 0) nopI)))) (cond (Nat.ble pc 58) (cond (Nat.ble pc 54) (cond (Nat.beq pc 54) (.aload_n 0, 1, 55, 0, 0, 0) nopI) (cond (Nat.ble pc 55) (cond (Nat.beq pc 55) (.iload_n 2, 1, 56, 0, 2, 0) nopI) (cond (Nat.beq pc 56) (.invokevirtual 9, 3, 59, 0, 0, 0) nopI))) (cond (Nat.ble pc 62) (cond (Nat.ble pc 61) (cond (Nat.beq pc 59) (.invokestatic 47, 3, 62, 0, 0, 0) nopI) (cond (Nat.beq pc 62) (.ireturn, 1, 63, 0, 0, 0) nopI)) (cond (Nat.ble pc 63) (cond (Nat.beq pc 63) (.iconst 0, 1, 64, 0, 0, 0) nopI) (cond (Nat.beq pc 64) (.ireturn, 1, 65, 0, 0, 0) nopI))))))
def m_X4_moveUnit : MI := (yX4_moveUnit, cX4_moveUnit, 3, (some .boolean), (3, 68, 0, 0), 65, k_X4_moveUnit)
set_option maxRecDepth 100000 in
theorem ok_X4_moveUnit : MOk m_X4_moveUnit := MOk.of (by decide +kernel) (fun _ => rfl)
theorem om_X4_moveUnit : okM m_X4_moveUnit = true := by decide +kernel
def k_X1_leakOut (pc : Nat) : Ins := cond (Nat.ble 52 pc) nopI (cond (Nat.ble pc 25) (cond (Nat.ble pc 11) (cond (Nat.ble pc 4) (cond (Nat.ble pc 1) (cond (Nat.ble pc 0) (cond (Nat.beq pc 0) (.iconst 0, 1, 1, 0, 0, 0) nopI) (cond (Nat.beq pc 1) (.istore_n 1, 1, 2, 0, 1, 0) nopI)) (cond (Nat.ble pc 2) (cond (Nat.beq pc 2) (.iload_n 1, 1, 3, 0, 1, 0) nopI) (cond (Nat.beq pc 3) (.bipush 8, 2, 5, 8, 0, 0) nopI))) (cond (Nat.ble pc 8) (cond (Nat.ble pc 7) (cond (Nat.beq pc 5) (.if_icmp .ge 46, 3, 8, 0, 51, 0) nopI) (cond (Nat.beq pc 8) (.aload_n 0, 1, 9, 0, 0, 0) nopI)) (cond (Nat.ble pc 10) (cond (Nat.beq pc 9) (.bipush 8, 2, 11, 8, 0, 0) nopI) (cond (Nat.beq pc 11) (.iload_n 1, 1, 12, 0, 1, 0) nopI)))) (cond (Nat.ble pc 17) (cond (Nat.ble pc 15) (cond (Nat.ble pc 12) (cond (Nat.beq pc 12) (.iadd, 1, 13, 0, 0, 0) nopI) (cond (Nat.beq pc 13) (.invokevirtual 15, 3, 16, 0, 0, 0) nopI)) (cond (Nat.ble pc 16) (cond (Nat.beq pc 16) (.aload_n 0, 1, 17, 0, 0, 0) nopI) (cond (Nat.beq pc 17) (.iconst 0, 1, 18, 0, 0, 0) nopI))) (cond (Nat.ble pc 19) (cond (Nat.ble pc 18) (cond (Nat.beq pc 18) (.iload_n 1, 1, 19, 0, 1, 0) nopI) (cond (Nat.beq pc 19) (.iadd, 1, 20, 0, 0, 0) nopI)) (cond (Nat.ble pc 22) (cond (Nat.beq pc 20) (.invokevirtual 15, 3, 23, 0, 0, 0) nopI) (cond (Nat.beq pc 23) (.invokestatic 38, 3, 26, 0, 0, 0) nopI))))) (cond (Nat.ble pc 35) (cond (Nat.ble pc 29) (cond (Nat.ble pc 27) (cond (Nat.ble pc 26) (cond (Nat.beq pc 26) (.istore_n 2, 1, 27, 0, 2, 0) nopI) (cond (Nat.beq pc 27) (.aload_n 0, 1, 28, 0, 0, 0) nopI)) (cond (Nat.ble pc 28) (cond (Nat.beq pc 28) (.iconst 0, 1, 29, 0, 0, 0) nopI) (cond (Nat.beq pc 29) (.iload_n 1, 1, 30, 0, 1, 0) nopI))) (cond (Nat.ble pc 31) (cond (Nat.ble pc 30) (cond (Nat.beq pc 30) (.iadd, 1, 31, 0, 0, 0) nopI) (cond (Nat.beq pc 31) (.iload_n 2, 1, 32, 0, 2, 0) nopI)) (cond (Nat.ble pc 32) (cond (Nat.beq pc 32) (.ineg, 1, 33, 0, 0, 0) nopI) (cond (Nat.beq pc 33) (.invokevirtual 19, 3, 36, 0, 0, 0) nopI)))) (cond (Nat.ble pc 40) (cond (Nat.ble pc 38) (cond (Nat.ble pc 36) (cond (Nat.beq pc 36) (.aload_n 0, 1, 37, 0, 0, 0) nopI) (cond (Nat.beq pc 37) (.bipush 16, 2, 39, 16, 0, 0) nopI)) (cond (Nat.ble pc 39) (cond (Nat.beq pc 39) (.iload_n 1, 1, 40, 0, 1, 0) nopI) (cond (Nat.beq pc 40) (.iadd, 1, 41, 0, 0, 0) nopI))) (cond (Nat.ble pc 44) (cond (Nat.ble pc 41) (cond (Nat.beq pc 41) (.iload_n 2, 1, 42, 0, 2, 0) nopI) (cond (Nat.beq pc 42) (.invokevirtual 19, 3, 45, 0, 0, 0) nopI)) (cond (Nat.ble pc 47) (cond (Nat.beq pc 45) (.iinc 1 1, 3, 48, 1, 1, 0) nopI) (cond (Nat.ble pc 50) (cond (Nat.beq pc 48) (.goto (-46), 3, 51, 0, 2, 0) nopI) (cond (Nat.beq pc 51) (.return_, 1, 52, 0, 0, 0) nopI)))))))
def m_X1_leakOut : MI := (yX1_leakOut, cX1_leakOut, 3, none, (1, 22, 0, 0), 52, k_X1_leakOut)
set_option maxRecDepth 100000 in
theorem ok_X1_leakOut : MOk m_X1_leakOut := MOk.of (by decide +kernel) (fun _ => rfl)
theorem om_X1_leakOut : okM m_X1_leakOut = true := by decide +kernel
def k_X6_listMoment (pc : Nat) : Ins := cond (Nat.ble 72 pc) nopI (cond (Nat.ble pc 34) (cond (Nat.ble pc 16) (cond (Nat.ble pc 6) (cond (Nat.ble pc 2) (cond (Nat.ble pc 0) (cond (Nat.beq pc 0) (.iconst 0, 1, 1, 0, 0, 0) nopI) (cond (Nat.ble pc 1) (cond (Nat.beq pc 1) (.istore_n 1, 1, 2, 0, 1, 0) nopI) (cond (Nat.beq pc 2) (.iconst 0, 1, 3, 0, 0, 0) nopI))) (cond (Nat.ble pc 3) (cond (Nat.beq pc 3) (.istore_n 2, 1, 4, 0, 2, 0) nopI) (cond (Nat.ble pc 4) (cond (Nat.beq pc 4) (.iload_n 2, 1, 5, 0, 2, 0) nopI) (cond (Nat.beq pc 5) (.bipush 8, 2, 7, 8, 0, 0) nopI)))) (cond (Nat.ble pc 11) (cond (Nat.ble pc 9) (cond (Nat.beq pc 7) (.if_icmp .ge 28, 3, 10, 0, 35, 0) nopI) (cond (Nat.ble pc 10) (cond (Nat.beq pc 10) (.iload_n 1, 1, 11, 0, 1, 0) nopI) (cond (Nat.beq pc 11) (.aload_n 0, 1, 12, 0, 0, 0) nopI))) (cond (Nat.ble pc 14) (cond (Nat.beq pc 12) (.getfield 11, 3, 15, 0, 2, 0) nopI) (cond (Nat.ble pc 15) (cond (Nat.beq pc 15) (.iconst 0, 1, 16, 0, 0, 0) nopI) (cond (Nat.beq pc 16) (.iload_n 2, 1, 17, 0, 2, 0) nopI))))) (cond (Nat.ble pc 24) (cond (Nat.ble pc 21) (cond (Nat.ble pc 17) (cond (Nat.beq pc 17) (.iadd, 1, 18, 0, 0, 0) nopI) (cond (Nat.ble pc 18) (cond (Nat.beq pc 18) (.iaload, 1, 19, 0, 0, 0) nopI) (cond (Nat.beq pc 19) (.getstatic 45, 3, 22, 0, 1, 0) nopI))) (cond (Nat.ble pc 22) (cond (Nat.beq pc 22) (.iload_n 2, 1, 23, 0, 2, 0) nopI) (cond (Nat.ble pc 23) (cond (Nat.beq pc 23) (.iconst 2, 1, 24, 2, 0, 0) nopI) (cond (Nat.beq pc 24) (.irem, 1, 25, 0, 0, 0) nopI)))) (cond (Nat.ble pc 27) (cond (Nat.ble pc 25) (cond (Nat.beq pc 25) (.iaload, 1, 26, 0, 0, 0) nopI) (cond (Nat.ble pc 26) (cond (Nat.beq pc 26) (.imul, 1, 27, 0, 0, 0) nopI) (cond (Nat.beq pc 27) (.iadd, 1, 28, 0, 0, 0) nopI))) (cond (Nat.ble pc 28) (cond (Nat.beq pc 28) (.istore_n 1, 1, 29, 0, 1, 0) nopI) (cond (Nat.ble pc 31) (cond (Nat.beq pc 29) (.iinc 2 1, 3, 32, 1, 2, 0) nopI) (cond (Nat.beq pc 32) (.goto (-28), 3, 35, 0, 4, 0) nopI)))))) (cond (Nat.ble pc 51) (cond (Nat.ble pc 42) (cond (Nat.ble pc 37) (cond (Nat.ble pc 35) (cond (Nat.beq pc 35) (.iconst 0, 1, 36, 0, 0, 0) nopI) (cond (Nat.ble pc 36) (cond (Nat.beq pc 36) (.istore_n 2, 1, 37, 0, 2, 0) nopI) (cond (Nat.beq pc 37) (.iload_n 2, 1, 38, 0, 2, 0) nopI))) (cond (Nat.ble pc 38) (cond (Nat.beq pc 38) (.iconst 3, 1, 39, 3, 0, 0) nopI) (cond (Nat.ble pc 41) (cond (Nat.beq pc 39) (.if_icmp .ge 31, 3, 42, 0, 70, 0) nopI) (cond (Nat.beq pc 42) (.iload_n 1, 1, 43, 0, 1, 0) nopI)))) (cond (Nat.ble pc 48) (cond (Nat.ble pc 43) (cond (Nat.beq pc 43) (.aload_n 0, 1, 44, 0, 0, 0) nopI) (cond (Nat.ble pc 46) (cond (Nat.beq pc 44) (.getfield 11, 3, 47, 0, 2, 0) nopI) (cond (Nat.beq pc 47) (.bipush 112, 2, 49, 112, 0, 0) nopI))) (cond (Nat.ble pc 49) (cond (Nat.beq pc 49) (.iload_n 2, 1, 50, 0, 2, 0) nopI) (cond (Nat.ble pc 50) (cond (Nat.beq pc 50) (.iadd, 1, 51, 0, 0, 0) nopI) (cond (Nat.beq pc 51) (.iaload, 1, 52, 0, 0, 0) nopI))))) (cond (Nat.ble pc 60) (cond (Nat.ble pc 57) (cond (Nat.ble pc 52) (cond (Nat.beq pc 52) (.aload_n 0, 1, 53, 0, 0, 0) nopI) (cond (Nat.ble pc 55) (cond (Nat.beq pc 53) (.getfield 11, 3, 56, 0, 2, 0) nopI) (cond (Nat.beq pc 56) (.bipush 115, 2, 58, 115, 0, 0) nopI))) (cond (Nat.ble pc 58) (cond (Nat.beq pc 58) (.iload_n 2, 1, 59, 0, 2, 0) nopI) (cond (Nat.ble pc 59) (cond (Nat.beq pc 59) (.iadd, 1, 60, 0, 0, 0) nopI) (cond (Nat.beq pc 60) (.iaload, 1, 61, 0, 0, 0) nopI)))) (cond (Nat.ble pc 63) (cond (Nat.ble pc 61) (cond (Nat.beq pc 61) (.imul, 1, 62, 0, 0, 0) nopI) (cond (Nat.ble pc 62) (cond (Nat.beq pc 62) (.iadd, 1, 63, 0, 0, 0) nopI) (cond (Nat.beq pc 63) (.istore_n 1, 1, 64, 0, 1, 0) nopI))) (cond (Nat.ble pc 69) (cond (Nat.ble pc 66) (cond (Nat.beq pc 64) (.iinc 2 1, 3, 67, 1, 2, 0) nopI) (cond (Nat.beq pc 67) (.goto (-30), 3, 70, 0, 37, 0) nopI)) (cond (Nat.ble pc 70) (cond (Nat.beq pc 70) (.iload_n 1, 1, 71, 0, 1, 0) nopI) (cond (Nat.beq pc 71) (.ireturn, 1, 72, 0, 0, 0) nopI)))))))
def m_X6_listMoment : MI := (yX6_listMoment, cX6_listMoment, 3, (some .int), (0, 0, 0, 0), 72, k_X6_listMoment)
set_option maxRecDepth 100000 in
theorem ok_X6_listMoment : MOk m_X6_listMoment := MOk.of (by decide +kernel) (fun _ => rfl)
theorem om_X6_listMoment : okM m_X6_listMoment = true := by decide +kernel
def k_X6_listOf (pc : Nat) : Ins := cond (Nat.ble 15 pc) nopI (cond (Nat.ble pc 7) (cond (Nat.ble pc 3) (cond (Nat.ble pc 0) (cond (Nat.beq pc 0) (.iload_n 1, 1, 1, 0, 1, 0) nopI) (cond (Nat.beq pc 1) (.ifCond .le 12, 3, 4, 0, 13, 0) nopI)) (cond (Nat.ble pc 5) (cond (Nat.beq pc 4) (.bipush 10, 2, 6, 10, 0, 0) nopI) (cond (Nat.ble pc 6) (cond (Nat.beq pc 6) (.iload_n 0, 1, 7, 0, 0, 0) nopI) (cond (Nat.beq pc 7) (.imul, 1, 8, 0, 0, 0) nopI)))) (cond (Nat.ble pc 9) (cond (Nat.ble pc 8) (cond (Nat.beq pc 8) (.iload_n 1, 1, 9, 0, 1, 0) nopI) (cond (Nat.beq pc 9) (.idiv, 1, 10, 0, 0, 0) nopI)) (cond (Nat.ble pc 12) (cond (Nat.beq pc 10) (.goto 4, 3, 13, 0, 14, 0) nopI) (cond (Nat.ble pc 13) (cond (Nat.beq pc 13) (.iconst 0, 1, 14, 0, 0, 0) nopI) (cond (Nat.beq pc 14) (.ireturn, 1, 15, 0, 0, 0) nopI)))))
def m_X6_listOf : MI := (yX6_listOf, cX6_listOf, 2, (some .int), (0, 0, 0, 0), 15, k_X6_listOf)
set_option maxRecDepth 100000 in
theorem ok_X6_listOf : MOk m_X6_listOf := MOk.of (by decide +kernel) (fun _ => rfl)
theorem om_X6_listOf : okM m_X6_listOf = true := by decide +kernel
def k_X6_list (pc : Nat) : Ins := cond (Nat.ble 12 pc) nopI (cond (Nat.ble pc 4) (cond (Nat.ble pc 0) (cond (Nat.beq pc 0) (.aload_n 0, 1, 1, 0, 0, 0) nopI) (cond (Nat.ble pc 3) (cond (Nat.beq pc 1) (.invokevirtual 48, 3, 4, 0, 0, 0) nopI) (cond (Nat.beq pc 4) (.aload_n 0, 1, 5, 0, 0, 0) nopI))) (cond (Nat.ble pc 7) (cond (Nat.beq pc 5) (.invokevirtual 31, 3, 8, 0, 0, 0) nopI) (cond (Nat.ble pc 10) (cond (Nat.beq pc 8) (.invokestatic 51, 3, 11, 0, 0, 0) nopI) (cond (Nat.beq pc 11) (.ireturn, 1, 12, 0, 0, 0) nopI))))
def m_X6_list : MI := (yX6_list, cX6_list, 1, (some .int), (1, 22, 0, 0), 12, k_X6_list)
set_option maxRecDepth 100000 in
theorem ok_X6_list : MOk m_X6_list := MOk.of (by decide +kernel) (fun _ => rfl)
theorem om_X6_list : okM m_X6_list = true := by decide +kernel
def k_X6_put (pc : Nat) : Ins := cond (Nat.ble 19 pc) nopI (cond (Nat.ble pc 10) (cond (Nat.ble pc 3) (cond (Nat.ble pc 0) (cond (Nat.beq pc 0) (.iload_n 1, 1, 1, 0, 1, 0) nopI) (cond (Nat.beq pc 1) (.ifCond .lt 17, 3, 4, 0, 18, 0) nopI)) (cond (Nat.ble pc 4) (cond (Nat.beq pc 4) (.iload_n 1, 1, 5, 0, 1, 0) nopI) (cond (Nat.ble pc 7) (cond (Nat.beq pc 5) (.sipush 162, 3, 8, 162, 0, 0) nopI) (cond (Nat.beq pc 8) (.if_icmp .ge 10, 3, 11, 0, 18, 0) nopI)))) (cond (Nat.ble pc 15) (cond (Nat.ble pc 11) (cond (Nat.beq pc 11) (.aload_n 0, 1, 12, 0, 0, 0) nopI) (cond (Nat.ble pc 14) (cond (Nat.beq pc 12) (.getfield 11, 3, 15, 0, 2, 0) nopI) (cond (Nat.beq pc 15) (.iload_n 1, 1, 16, 0, 1, 0) nopI))) (cond (Nat.ble pc 16) (cond (Nat.beq pc 16) (.iload_n 2, 1, 17, 0, 2, 0) nopI) (cond (Nat.ble pc 17) (cond (Nat.beq pc 17) (.iastore, 1, 18, 0, 0, 0) nopI) (cond (Nat.beq pc 18) (.return_, 1, 19, 0, 0, 0) nopI)))))
def m_X6_put : MI := (yX6_put, cX6_put, 3, none, (0, 0, 0, 0), 19, k_X6_put)
set_option maxRecDepth 100000 in
theorem ok_X6_put : MOk m_X6_put := MOk.of (by decide +kernel) (fun _ => rfl)
theorem om_X6_put : okM m_X6_put = true := by decide +kernel
def k_X1_shiftCargo (pc : Nat) : Ins := cond (Nat.ble 94 pc) nopI (cond (Nat.ble pc 44) (cond (Nat.ble pc 24) (cond (Nat.ble pc 9) (cond (Nat.ble pc 4) (cond (Nat.ble pc 0) (cond (Nat.beq pc 0) (.aload_n 0, 1, 1, 0, 0, 0) nopI) (cond (Nat.ble pc 3) (cond (Nat.beq pc 1) (.invokevirtual 44, 3, 4, 0, 0, 0) nopI) (cond (Nat.beq pc 4) (.istore_n 1, 1, 5, 0, 1, 0) nopI))) (cond (Nat.ble pc 5) (cond (Nat.beq pc 5) (.iload_n 1, 1, 6, 0, 1, 0) nopI) (cond (Nat.ble pc 8) (cond (Nat.beq pc 6) (.invokestatic 47, 3, 9, 0, 0, 0) nopI) (cond (Nat.beq pc 9) (.aload_n 0, 1, 10, 0, 0, 0) nopI)))) (cond (Nat.ble pc 18) (cond (Nat.ble pc 12) (cond (Nat.beq pc 10) (.sipush 129, 3, 13, 129, 0, 0) nopI) (cond (Nat.ble pc 15) (cond (Nat.beq pc 13) (.invokevirtual 15, 3, 16, 0, 0, 0) nopI) (cond (Nat.beq pc 16) (.if_icmp .gt 4, 3, 19, 0, 20, 0) nopI))) (cond (Nat.ble pc 20) (cond (Nat.ble pc 19) (cond (Nat.beq pc 19) (.return_, 1, 20, 0, 0, 0) nopI) (cond (Nat.beq pc 20) (.iload_n 1, 1, 21, 0, 1, 0) nopI)) (cond (Nat.ble pc 23) (cond (Nat.beq pc 21) (.ifCond .ge 7, 3, 24, 0, 28, 0) nopI) (cond (Nat.beq pc 24) (.iconst (-1), 1, 25, -1, 0, 0) nopI))))) (cond (Nat.ble pc 32) (cond (Nat.ble pc 29) (cond (Nat.ble pc 27) (cond (Nat.beq pc 25) (.goto 4, 3, 28, 0, 29, 0) nopI) (cond (Nat.ble pc 28) (cond (Nat.beq pc 28) (.iconst 1, 1, 29, 1, 0, 0) nopI) (cond (Nat.beq pc 29) (.istore_n 2, 1, 30, 0, 2, 0) nopI))) (cond (Nat.ble pc 30) (cond (Nat.beq pc 30) (.iconst 0, 1, 31, 0, 0, 0) nopI) (cond (Nat.ble pc 31) (cond (Nat.beq pc 31) (.istore_n 3, 1, 32, 0, 3, 0) nopI) (cond (Nat.beq pc 32) (.iload_n 3, 1, 33, 0, 3, 0) nopI)))) (cond (Nat.ble pc 37) (cond (Nat.ble pc 33) (cond (Nat.beq pc 33) (.iconst 3, 1, 34, 3, 0, 0) nopI) (cond (Nat.ble pc 36) (cond (Nat.beq pc 34) (.if_icmp .ge 59, 3, 37, 0, 93, 0) nopI) (cond (Nat.beq pc 37) (.aload_n 0, 1, 38, 0, 0, 0) nopI))) (cond (Nat.ble pc 40) (cond (Nat.ble pc 39) (cond (Nat.beq pc 38) (.bipush 115, 2, 40, 115, 0, 0) nopI) (cond (Nat.beq pc 40) (.iload_n 3, 1, 41, 0, 3, 0) nopI)) (cond (Nat.ble pc 41) (cond (Nat.beq pc 41) (.iadd, 1, 42, 0, 0, 0) nopI) (cond (Nat.beq pc 42) (.invokevirtual 15, 3, 45, 0, 0, 0) nopI)))))) (cond (Nat.ble pc 68) (cond (Nat.ble pc 52) (cond (Nat.ble pc 48) (cond (Nat.ble pc 45) (cond (Nat.beq pc 45) (.iload_n 2, 1, 46, 0, 2, 0) nopI) (cond (Nat.ble pc 46) (cond (Nat.beq pc 46) (.iadd, 1, 47, 0, 0, 0) nopI) (cond (Nat.beq pc 47) (.istore 4, 2, 49, 0, 4, 0) nopI))) (cond (Nat.ble pc 49) (cond (Nat.beq pc 49) (.aload_n 0, 1, 50, 0, 0, 0) nopI) (cond (Nat.ble pc 51) (cond (Nat.beq pc 50) (.bipush 112, 2, 52, 112, 0, 0) nopI) (cond (Nat.beq pc 52) (.iload_n 3, 1, 53, 0, 3, 0) nopI)))) (cond (Nat.ble pc 59) (cond (Nat.ble pc 53) (cond (Nat.beq pc 53) (.iadd, 1, 54, 0, 0, 0) nopI) (cond (Nat.ble pc 56) (cond (Nat.beq pc 54) (.invokevirtual 15, 3, 57, 0, 0, 0) nopI) (cond (Nat.beq pc 57) (.ifCond .le 30, 3, 60, 0, 87, 0) nopI))) (cond (Nat.ble pc 64) (cond (Nat.ble pc 61) (cond (Nat.beq pc 60) (.iload 4, 2, 62, 0, 4, 0) nopI) (cond (Nat.beq pc 62) (.invokestatic 47, 3, 65, 0, 0, 0) nopI)) (cond (Nat.ble pc 65) (cond (Nat.beq pc 65) (.iconst 3, 1, 66, 3, 0, 0) nopI) (cond (Nat.beq pc 66) (.if_icmp .gt 21, 3, 69, 0, 87, 0) nopI))))) (cond (Nat.ble pc 78) (cond (Nat.ble pc 72) (cond (Nat.ble pc 69) (cond (Nat.beq pc 69) (.aload_n 0, 1, 70, 0, 0, 0) nopI) (cond (Nat.ble pc 71) (cond (Nat.beq pc 70) (.bipush 115, 2, 72, 115, 0, 0) nopI) (cond (Nat.beq pc 72) (.iload_n 3, 1, 73, 0, 3, 0) nopI))) (cond (Nat.ble pc 73) (cond (Nat.beq pc 73) (.iadd, 1, 74, 0, 0, 0) nopI) (cond (Nat.ble pc 75) (cond (Nat.beq pc 74) (.iload 4, 2, 76, 0, 4, 0) nopI) (cond (Nat.beq pc 76) (.invokevirtual 50, 3, 79, 0, 0, 0) nopI)))) (cond (Nat.ble pc 83) (cond (Nat.ble pc 79) (cond (Nat.beq pc 79) (.aload_n 0, 1, 80, 0, 0, 0) nopI) (cond (Nat.ble pc 82) (cond (Nat.beq pc 80) (.sipush 161, 3, 83, 161, 0, 0) nopI) (cond (Nat.beq pc 83) (.iconst 1, 1, 84, 1, 0, 0) nopI))) (cond (Nat.ble pc 89) (cond (Nat.ble pc 86) (cond (Nat.beq pc 84) (.invokevirtual 19, 3, 87, 0, 0, 0) nopI) (cond (Nat.beq pc 87) (.iinc 3 1, 3, 90, 1, 3, 0) nopI)) (cond (Nat.ble pc 92) (cond (Nat.beq pc 90) (.goto (-58), 3, 93, 0, 32, 0) nopI) (cond (Nat.beq pc 93) (.return_, 1, 94, 0, 0, 0) nopI)))))))
def m_X1_shiftCargo : MI := (yX1_shiftCargo, cX1_shiftCargo, 5, none, (2, 42, 0, 0), 94, k_X1_shiftCargo)
set_option maxRecDepth 100000 in
theorem ok_X1_shiftCargo : MOk m_X1_shiftCargo := MOk.of (by decide +kernel) (fun _ => rfl)
theorem om_X1_shiftCargo : okM m_X1_shiftCargo = true := by decide +kernel
def k_X1_run (pc : Nat) : Ins := cond (Nat.ble 91 pc) nopI (cond (Nat.ble pc 40) (cond (Nat.ble pc 19) (cond (Nat.ble pc 8) (cond (Nat.ble pc 3) (cond (Nat.ble pc 0) (cond (Nat.beq pc 0) (.aload_n 0, 1, 1, 0, 0, 0) nopI) (cond (Nat.beq pc 1) (.invokevirtual 9, 3, 4, 0, 0, 0) nopI)) (cond (Nat.ble pc 4) (cond (Nat.beq pc 4) (.istore_n 3, 1, 5, 0, 3, 0) nopI) (cond (Nat.ble pc 5) (cond (Nat.beq pc 5) (.aload_n 0, 1, 6, 0, 0, 0) nopI) (cond (Nat.beq pc 6) (.sipush 128, 3, 9, 128, 0, 0) nopI)))) (cond (Nat.ble pc 14) (cond (Nat.ble pc 11) (cond (Nat.beq pc 9) (.invokevirtual 15, 3, 12, 0, 0, 0) nopI) (cond (Nat.ble pc 13) (cond (Nat.beq pc 12) (.istore 4, 2, 14, 0, 4, 0) nopI) (cond (Nat.beq pc 14) (.iconst 0, 1, 15, 0, 0, 0) nopI))) (cond (Nat.ble pc 16) (cond (Nat.beq pc 15) (.istore 5, 2, 17, 0, 5, 0) nopI) (cond (Nat.ble pc 18) (cond (Nat.beq pc 17) (.iload 5, 2, 19, 0, 5, 0) nopI) (cond (Nat.beq pc 19) (.iload_n 2, 1, 20, 0, 2, 0) nopI))))) (cond (Nat.ble pc 30) (cond (Nat.ble pc 23) (cond (Nat.ble pc 22) (cond (Nat.beq pc 20) (.if_icmp .ge 70, 3, 23, 0, 90, 0) nopI) (cond (Nat.beq pc 23) (.aload_n 0, 1, 24, 0, 0, 0) nopI)) (cond (Nat.ble pc 26) (cond (Nat.beq pc 24) (.sipush 156, 3, 27, 156, 0, 0) nopI) (cond (Nat.ble pc 27) (cond (Nat.beq pc 27) (.iconst 1, 1, 28, 1, 0, 0) nopI) (cond (Nat.beq pc 28) (.invokevirtual 19, 3, 31, 0, 0, 0) nopI)))) (cond (Nat.ble pc 34) (cond (Nat.ble pc 31) (cond (Nat.beq pc 31) (.iconst 1, 1, 32, 1, 0, 0) nopI) (cond (Nat.ble pc 33) (cond (Nat.beq pc 32) (.istore 6, 2, 34, 0, 6, 0) nopI) (cond (Nat.beq pc 34) (.iconst 0, 1, 35, 0, 0, 0) nopI))) (cond (Nat.ble pc 36) (cond (Nat.beq pc 35) (.istore 7, 2, 37, 0, 7, 0) nopI) (cond (Nat.ble pc 38) (cond (Nat.beq pc 37) (.iload 7, 2, 39, 0, 7, 0) nopI) (cond (Nat.beq pc 39) (.iload 4, 2, 41, 0, 4, 0) nopI)))))) (cond (Nat.ble pc 63) (cond (Nat.ble pc 50) (cond (Nat.ble pc 45) (cond (Nat.ble pc 43) (cond (Nat.beq pc 41) (.if_icmp .ge 22, 3, 44, 0, 63, 0) nopI) (cond (Nat.beq pc 44) (.iload 6, 2, 46, 0, 6, 0) nopI)) (cond (Nat.ble pc 48) (cond (Nat.beq pc 46) (.ifCond .eq 17, 3, 49, 0, 63, 0) nopI) (cond (Nat.ble pc 49) (cond (Nat.beq pc 49) (.aload_n 0, 1, 50, 0, 0, 0) nopI) (cond (Nat.beq pc 50) (.iload_n 1, 1, 51, 0, 1, 0) nopI)))) (cond (Nat.ble pc 56) (cond (Nat.ble pc 51) (cond (Nat.beq pc 51) (.iload_n 3, 1, 52, 0, 3, 0) nopI) (cond (Nat.ble pc 54) (cond (Nat.beq pc 52) (.invokestatic 23, 3, 55, 0, 0, 0) nopI) (cond (Nat.beq pc 55) (.istore 6, 2, 57, 0, 6, 0) nopI))) (cond (Nat.ble pc 59) (cond (Nat.beq pc 57) (.iinc 7 1, 3, 60, 1, 7, 0) nopI) (cond (Nat.ble pc 62) (cond (Nat.beq pc 60) (.goto (-23), 3, 63, 0, 37, 0) nopI) (cond (Nat.beq pc 63) (.aload_n 0, 1, 64, 0, 0, 0) nopI))))) (cond (Nat.ble pc 76) (cond (Nat.ble pc 71) (cond (Nat.ble pc 66) (cond (Nat.beq pc 64) (.sipush 156, 3, 67, 156, 0, 0) nopI) (cond (Nat.ble pc 69) (cond (Nat.beq pc 67) (.invokevirtual 15, 3, 70, 0, 0, 0) nopI) (cond (Nat.beq pc 70) (.bipush 10, 2, 72, 10, 0, 0) nopI))) (cond (Nat.ble pc 72) (cond (Nat.beq pc 72) (.irem, 1, 73, 0, 0, 0) nopI) (cond (Nat.ble pc 75) (cond (Nat.beq pc 73) (.ifCond .ne 7, 3, 76, 0, 80, 0) nopI) (cond (Nat.beq pc 76) (.aload_n 0, 1, 77, 0, 0, 0) nopI)))) (cond (Nat.ble pc 83) (cond (Nat.ble pc 79) (cond (Nat.beq pc 77) (.invokestatic 29, 3, 80, 0, 0, 0) nopI) (cond (Nat.ble pc 80) (cond (Nat.beq pc 80) (.aload_n 0, 1, 81, 0, 0, 0) nopI) (cond (Nat.beq pc 81) (.invokestatic 35, 3, 84, 0, 0, 0) nopI))) (cond (Nat.ble pc 86) (cond (Nat.beq pc 84) (.iinc 5 1, 3, 87, 1, 5, 0) nopI) (cond (Nat.ble pc 89) (cond (Nat.beq pc 87) (.goto (-70), 3, 90, 0, 17, 0) nopI) (cond (Nat.beq pc 90) (.return_, 1, 91, 0, 0, 0) nopI)))))))
def m_X1_run : MI := (yX1_run, cX1_run, 8, none, (4, 90, 0, 0), 91, k_X1_run)
set_option maxRecDepth 100000 in
theorem ok_X1_run : MOk m_X1_run := MOk.of (by decide +kernel) (fun _ => rfl)
theorem om_X1_run : okM m_X1_run = true := by decide +kernel
def k_X2_putAt (pc : Nat) : Ins := cond (Nat.ble 21 pc) nopI (cond (Nat.ble pc 9) (cond (Nat.ble pc 4) (cond (Nat.ble pc 0) (cond (Nat.beq pc 0) (.aload_n 0, 1, 1, 0, 0, 0) nopI) (cond (Nat.ble pc 3) (cond (Nat.beq pc 1) (.sipush 131, 3, 4, 131, 0, 0) nopI) (cond (Nat.beq pc 4) (.iload_n 1, 1, 5, 0, 1, 0) nopI))) (cond (Nat.ble pc 5) (cond (Nat.beq pc 5) (.iadd, 1, 6, 0, 0, 0) nopI) (cond (Nat.ble pc 6) (cond (Nat.beq pc 6) (.iload_n 2, 1, 7, 0, 2, 0) nopI) (cond (Nat.beq pc 7) (.invokevirtual 21, 3, 10, 0, 0, 0) nopI)))) (cond (Nat.ble pc 14) (cond (Nat.ble pc 10) (cond (Nat.beq pc 10) (.aload_n 0, 1, 11, 0, 0, 0) nopI) (cond (Nat.ble pc 13) (cond (Nat.beq pc 11) (.sipush 143, 3, 14, 143, 0, 0) nopI) (cond (Nat.beq pc 14) (.iload_n 1, 1, 15, 0, 1, 0) nopI))) (cond (Nat.ble pc 16) (cond (Nat.ble pc 15) (cond (Nat.beq pc 15) (.iadd, 1, 16, 0, 0, 0) nopI) (cond (Nat.beq pc 16) (.iload_n 3, 1, 17, 0, 3, 0) nopI)) (cond (Nat.ble pc 19) (cond (Nat.beq pc 17) (.invokevirtual 21, 3, 20, 0, 0, 0) nopI) (cond (Nat.beq pc 20) (.return_, 1, 21, 0, 0, 0) nopI)))))
def m_X2_putAt : MI := (yX2_putAt, cX2_putAt, 4, none, (1, 22, 0, 0), 21, k_X2_putAt)
set_option maxRecDepth 100000 in
theorem ok_X2_putAt : MOk m_X2_putAt := MOk.of (by decide +kernel) (fun _ => rfl)
theorem om_X2_putAt : okM m_X2_putAt = true := by decide +kernel
def k_X2_append (pc : Nat) : Ins := cond (Nat.ble 33 pc) nopI (cond (Nat.ble pc 16) (cond (Nat.ble pc 8) (cond (Nat.ble pc 3) (cond (Nat.ble pc 0) (cond (Nat.beq pc 0) (.aload_n 0, 1, 1, 0, 0, 0) nopI) (cond (Nat.beq pc 1) (.sipush 155, 3, 4, 155, 0, 0) nopI)) (cond (Nat.ble pc 6) (cond (Nat.beq pc 4) (.invokevirtual 11, 3, 7, 0, 0, 0) nopI) (cond (Nat.ble pc 7) (cond (Nat.beq pc 7) (.istore_n 3, 1, 8, 0, 3, 0) nopI) (cond (Nat.beq pc 8) (.iload_n 3, 1, 9, 0, 3, 0) nopI)))) (cond (Nat.ble pc 13) (cond (Nat.ble pc 10) (cond (Nat.beq pc 9) (.bipush 12, 2, 11, 12, 0, 0) nopI) (cond (Nat.beq pc 11) (.if_icmp .lt 4, 3, 14, 0, 15, 0) nopI)) (cond (Nat.ble pc 14) (cond (Nat.beq pc 14) (.return_, 1, 15, 0, 0, 0) nopI) (cond (Nat.ble pc 15) (cond (Nat.beq pc 15) (.aload_n 0, 1, 16, 0, 0, 0) nopI) (cond (Nat.beq pc 16) (.iload_n 3, 1, 17, 0, 3, 0) nopI))))) (cond (Nat.ble pc 25) (cond (Nat.ble pc 18) (cond (Nat.ble pc 17) (cond (Nat.beq pc 17) (.iload_n 1, 1, 18, 0, 1, 0) nopI) (cond (Nat.beq pc 18) (.iload_n 2, 1, 19, 0, 2, 0) nopI)) (cond (Nat.ble pc 21) (cond (Nat.beq pc 19) (.invokestatic 15, 3, 22, 0, 0, 0) nopI) (cond (Nat.ble pc 22) (cond (Nat.beq pc 22) (.aload_n 0, 1, 23, 0, 0, 0) nopI) (cond (Nat.beq pc 23) (.sipush 155, 3, 26, 155, 0, 0) nopI)))) (cond (Nat.ble pc 27) (cond (Nat.ble pc 26) (cond (Nat.beq pc 26) (.iload_n 3, 1, 27, 0, 3, 0) nopI) (cond (Nat.beq pc 27) (.iconst 1, 1, 28, 1, 0, 0) nopI)) (cond (Nat.ble pc 28) (cond (Nat.beq pc 28) (.iadd, 1, 29, 0, 0, 0) nopI) (cond (Nat.ble pc 31) (cond (Nat.beq pc 29) (.invokevirtual 21, 3, 32, 0, 0, 0) nopI) (cond (Nat.beq pc 32) (.return_, 1, 33, 0, 0, 0) nopI))))))
def m_X2_append : MI := (yX2_append, cX2_append, 4, none, (2, 45, 0, 0), 33, k_X2_append)
set_option maxRecDepth 100000 in
theorem ok_X2_append : MOk m_X2_append := MOk.of (by decide +kernel) (fun _ => rfl)
theorem om_X2_append : okM m_X2_append = true := by decide +kernel
def k_X2_has (pc : Nat) : Ins := cond (Nat.ble 38 pc) nopI (cond (Nat.ble pc 18) (cond (Nat.ble pc 8) (cond (Nat.ble pc 3) (cond (Nat.ble pc 0) (cond (Nat.beq pc 0) (.aload_n 0, 1, 1, 0, 0, 0) nopI) (cond (Nat.beq pc 1) (.sipush 155, 3, 4, 155, 0, 0) nopI)) (cond (Nat.ble pc 6) (cond (Nat.beq pc 4) (.invokevirtual 11, 3, 7, 0, 0, 0) nopI) (cond (Nat.ble pc 7) (cond (Nat.beq pc 7) (.istore_n 2, 1, 8, 0, 2, 0) nopI) (cond (Nat.beq pc 8) (.iconst 0, 1, 9, 0, 0, 0) nopI)))) (cond (Nat.ble pc 11) (cond (Nat.ble pc 9) (cond (Nat.beq pc 9) (.istore_n 3, 1, 10, 0, 3, 0) nopI) (cond (Nat.ble pc 10) (cond (Nat.beq pc 10) (.iload_n 3, 1, 11, 0, 3, 0) nopI) (cond (Nat.beq pc 11) (.iload_n 2, 1, 12, 0, 2, 0) nopI))) (cond (Nat.ble pc 14) (cond (Nat.beq pc 12) (.if_icmp .ge 24, 3, 15, 0, 36, 0) nopI) (cond (Nat.ble pc 15) (cond (Nat.beq pc 15) (.aload_n 0, 1, 16, 0, 0, 0) nopI) (cond (Nat.beq pc 16) (.sipush 131, 3, 19, 131, 0, 0) nopI))))) (cond (Nat.ble pc 27) (cond (Nat.ble pc 20) (cond (Nat.ble pc 19) (cond (Nat.beq pc 19) (.iload_n 3, 1, 20, 0, 3, 0) nopI) (cond (Nat.beq pc 20) (.iadd, 1, 21, 0, 0, 0) nopI)) (cond (Nat.ble pc 23) (cond (Nat.beq pc 21) (.invokevirtual 11, 3, 24, 0, 0, 0) nopI) (cond (Nat.ble pc 24) (cond (Nat.beq pc 24) (.iload_n 1, 1, 25, 0, 1, 0) nopI) (cond (Nat.beq pc 25) (.if_icmp .ne 5, 3, 28, 0, 30, 0) nopI)))) (cond (Nat.ble pc 32) (cond (Nat.ble pc 28) (cond (Nat.beq pc 28) (.iconst 1, 1, 29, 1, 0, 0) nopI) (cond (Nat.ble pc 29) (cond (Nat.beq pc 29) (.ireturn, 1, 30, 0, 0, 0) nopI) (cond (Nat.beq pc 30) (.iinc 3 1, 3, 33, 1, 3, 0) nopI))) (cond (Nat.ble pc 35) (cond (Nat.beq pc 33) (.goto (-23), 3, 36, 0, 10, 0) nopI) (cond (Nat.ble pc 36) (cond (Nat.beq pc 36) (.iconst 0, 1, 37, 0, 0, 0) nopI) (cond (Nat.beq pc 37) (.ireturn, 1, 38, 0, 0, 0) nopI))))))
def m_X2_has : MI := (yX2_has, cX2_has, 4, (some .boolean), (1, 21, 0, 0), 38, k_X2_has)
set_option maxRecDepth 100000 in
theorem ok_X2_has : MOk m_X2_has := MOk.of (by decide +kernel) (fun _ => rfl)
theorem om_X2_has : okM m_X2_has = true := by decide +kernel
def k_X2_strikeOut (pc : Nat) : Ins := cond (Nat.ble 75 pc) nopI (cond (Nat.ble pc 36) (cond (Nat.ble pc 15) (cond (Nat.ble pc 8) (cond (Nat.ble pc 3) (cond (Nat.ble pc 0) (cond (Nat.beq pc 0) (.aload_n 0, 1, 1, 0, 0, 0) nopI) (cond (Nat.beq pc 1) (.sipush 155, 3, 4, 155, 0, 0) nopI)) (cond (Nat.ble pc 6) (cond (Nat.beq pc 4) (.invokevirtual 11, 3, 7, 0, 0, 0) nopI) (cond (Nat.ble pc 7) (cond (Nat.beq pc 7) (.istore_n 2, 1, 8, 0, 2, 0) nopI) (cond (Nat.beq pc 8) (.iconst 0, 1, 9, 0, 0, 0) nopI)))) (cond (Nat.ble pc 10) (cond (Nat.ble pc 9) (cond (Nat.beq pc 9) (.istore_n 3, 1, 10, 0, 3, 0) nopI) (cond (Nat.beq pc 10) (.iconst 0, 1, 11, 0, 0, 0) nopI)) (cond (Nat.ble pc 12) (cond (Nat.beq pc 11) (.istore 4, 2, 13, 0, 4, 0) nopI) (cond (Nat.ble pc 14) (cond (Nat.beq pc 13) (.iload 4, 2, 15, 0, 4, 0) nopI) (cond (Nat.beq pc 15) (.iload_n 2, 1, 16, 0, 2, 0) nopI))))) (cond (Nat.ble pc 25) (cond (Nat.ble pc 19) (cond (Nat.ble pc 18) (cond (Nat.beq pc 16) (.if_icmp .ge 47, 3, 19, 0, 63, 0) nopI) (cond (Nat.beq pc 19) (.aload_n 0, 1, 20, 0, 0, 0) nopI)) (cond (Nat.ble pc 22) (cond (Nat.beq pc 20) (.sipush 131, 3, 23, 131, 0, 0) nopI) (cond (Nat.ble pc 24) (cond (Nat.beq pc 23) (.iload 4, 2, 25, 0, 4, 0) nopI) (cond (Nat.beq pc 25) (.iadd, 1, 26, 0, 0, 0) nopI)))) (cond (Nat.ble pc 30) (cond (Nat.ble pc 28) (cond (Nat.beq pc 26) (.invokevirtual 11, 3, 29, 0, 0, 0) nopI) (cond (Nat.beq pc 29) (.istore 5, 2, 31, 0, 5, 0) nopI)) (cond (Nat.ble pc 32) (cond (Nat.beq pc 31) (.iload 5, 2, 33, 0, 5, 0) nopI) (cond (Nat.ble pc 33) (cond (Nat.beq pc 33) (.iload_n 1, 1, 34, 0, 1, 0) nopI) (cond (Nat.beq pc 34) (.if_icmp .eq 23, 3, 37, 0, 57, 0) nopI)))))) (cond (Nat.ble pc 56) (cond (Nat.ble pc 44) (cond (Nat.ble pc 38) (cond (Nat.ble pc 37) (cond (Nat.beq pc 37) (.aload_n 0, 1, 38, 0, 0, 0) nopI) (cond (Nat.beq pc 38) (.iload_n 3, 1, 39, 0, 3, 0) nopI)) (cond (Nat.ble pc 40) (cond (Nat.beq pc 39) (.iload 5, 2, 41, 0, 5, 0) nopI) (cond (Nat.ble pc 41) (cond (Nat.beq pc 41) (.aload_n 0, 1, 42, 0, 0, 0) nopI) (cond (Nat.beq pc 42) (.sipush 143, 3, 45, 143, 0, 0) nopI)))) (cond (Nat.ble pc 47) (cond (Nat.ble pc 46) (cond (Nat.beq pc 45) (.iload 4, 2, 47, 0, 4, 0) nopI) (cond (Nat.beq pc 47) (.iadd, 1, 48, 0, 0, 0) nopI)) (cond (Nat.ble pc 50) (cond (Nat.beq pc 48) (.invokevirtual 11, 3, 51, 0, 0, 0) nopI) (cond (Nat.ble pc 53) (cond (Nat.beq pc 51) (.invokestatic 15, 3, 54, 0, 0, 0) nopI) (cond (Nat.beq pc 54) (.iinc 3 1, 3, 57, 1, 3, 0) nopI))))) (cond (Nat.ble pc 67) (cond (Nat.ble pc 62) (cond (Nat.ble pc 59) (cond (Nat.beq pc 57) (.iinc 4 1, 3, 60, 1, 4, 0) nopI) (cond (Nat.beq pc 60) (.goto (-47), 3, 63, 0, 13, 0) nopI)) (cond (Nat.ble pc 63) (cond (Nat.beq pc 63) (.aload_n 0, 1, 64, 0, 0, 0) nopI) (cond (Nat.ble pc 66) (cond (Nat.beq pc 64) (.sipush 155, 3, 67, 155, 0, 0) nopI) (cond (Nat.beq pc 67) (.iload_n 3, 1, 68, 0, 3, 0) nopI)))) (cond (Nat.ble pc 71) (cond (Nat.ble pc 70) (cond (Nat.beq pc 68) (.invokevirtual 21, 3, 71, 0, 0, 0) nopI) (cond (Nat.beq pc 71) (.iload_n 2, 1, 72, 0, 2, 0) nopI)) (cond (Nat.ble pc 72) (cond (Nat.beq pc 72) (.iload_n 3, 1, 73, 0, 3, 0) nopI) (cond (Nat.ble pc 73) (cond (Nat.beq pc 73) (.isub, 1, 74, 0, 0, 0) nopI) (cond (Nat.beq pc 74) (.ireturn, 1, 75, 0, 0, 0) nopI)))))))
def m_X2_strikeOut : MI := (yX2_strikeOut, cX2_strikeOut, 6, (some .int), (2, 45, 0, 0), 75, k_X2_strikeOut)
set_option maxRecDepth 100000 in
theorem ok_X2_strikeOut : MOk m_X2_strikeOut := MOk.of (by decide +kernel) (fun _ => rfl)
theorem om_X2_strikeOut : okM m_X2_strikeOut = true := by decide +kernel
def k_X2_takeFirstOff (pc : Nat) : Ins := cond (Nat.ble 59 pc) nopI (cond (Nat.ble pc 26) (cond (Nat.ble pc 11) (cond (Nat.ble pc 7) (cond (Nat.ble pc 3) (cond (Nat.ble pc 0) (cond (Nat.beq pc 0) (.aload_n 0, 1, 1, 0, 0, 0) nopI) (cond (Nat.beq pc 1) (.sipush 155, 3, 4, 155, 0, 0) nopI)) (cond (Nat.ble pc 6) (cond (Nat.beq pc 4) (.invokevirtual 11, 3, 7, 0, 0, 0) nopI) (cond (Nat.beq pc 7) (.istore_n 1, 1, 8, 0, 1, 0) nopI))) (cond (Nat.ble pc 9) (cond (Nat.ble pc 8) (cond (Nat.beq pc 8) (.iconst 1, 1, 9, 1, 0, 0) nopI) (cond (Nat.beq pc 9) (.istore_n 2, 1, 10, 0, 2, 0) nopI)) (cond (Nat.ble pc 10) (cond (Nat.beq pc 10) (.iload_n 2, 1, 11, 0, 2, 0) nopI) (cond (Nat.beq pc 11) (.iload_n 1, 1, 12, 0, 1, 0) nopI)))) (cond (Nat.ble pc 19) (cond (Nat.ble pc 15) (cond (Nat.ble pc 14) (cond (Nat.beq pc 12) (.if_icmp .ge 36, 3, 15, 0, 48, 0) nopI) (cond (Nat.beq pc 15) (.aload_n 0, 1, 16, 0, 0, 0) nopI)) (cond (Nat.ble pc 18) (cond (Nat.beq pc 16) (.sipush 131, 3, 19, 131, 0, 0) nopI) (cond (Nat.beq pc 19) (.iload_n 2, 1, 20, 0, 2, 0) nopI))) (cond (Nat.ble pc 23) (cond (Nat.ble pc 20) (cond (Nat.beq pc 20) (.iadd, 1, 21, 0, 0, 0) nopI) (cond (Nat.beq pc 21) (.invokevirtual 11, 3, 24, 0, 0, 0) nopI)) (cond (Nat.ble pc 24) (cond (Nat.beq pc 24) (.istore_n 3, 1, 25, 0, 3, 0) nopI) (cond (Nat.ble pc 25) (cond (Nat.beq pc 25) (.aload_n 0, 1, 26, 0, 0, 0) nopI) (cond (Nat.beq pc 26) (.iload_n 2, 1, 27, 0, 2, 0) nopI)))))) (cond (Nat.ble pc 41) (cond (Nat.ble pc 30) (cond (Nat.ble pc 28) (cond (Nat.ble pc 27) (cond (Nat.beq pc 27) (.iconst 1, 1, 28, 1, 0, 0) nopI) (cond (Nat.beq pc 28) (.isub, 1, 29, 0, 0, 0) nopI)) (cond (Nat.ble pc 29) (cond (Nat.beq pc 29) (.iload_n 3, 1, 30, 0, 3, 0) nopI) (cond (Nat.beq pc 30) (.aload_n 0, 1, 31, 0, 0, 0) nopI))) (cond (Nat.ble pc 34) (cond (Nat.ble pc 33) (cond (Nat.beq pc 31) (.sipush 143, 3, 34, 143, 0, 0) nopI) (cond (Nat.beq pc 34) (.iload_n 2, 1, 35, 0, 2, 0) nopI)) (cond (Nat.ble pc 35) (cond (Nat.beq pc 35) (.iadd, 1, 36, 0, 0, 0) nopI) (cond (Nat.ble pc 38) (cond (Nat.beq pc 36) (.invokevirtual 11, 3, 39, 0, 0, 0) nopI) (cond (Nat.beq pc 39) (.invokestatic 15, 3, 42, 0, 0, 0) nopI))))) (cond (Nat.ble pc 51) (cond (Nat.ble pc 47) (cond (Nat.ble pc 44) (cond (Nat.beq pc 42) (.iinc 2 1, 3, 45, 1, 2, 0) nopI) (cond (Nat.beq pc 45) (.goto (-35), 3, 48, 0, 10, 0) nopI)) (cond (Nat.ble pc 48) (cond (Nat.beq pc 48) (.aload_n 0, 1, 49, 0, 0, 0) nopI) (cond (Nat.beq pc 49) (.sipush 155, 3, 52, 155, 0, 0) nopI))) (cond (Nat.ble pc 53) (cond (Nat.ble pc 52) (cond (Nat.beq pc 52) (.iload_n 1, 1, 53, 0, 1, 0) nopI) (cond (Nat.beq pc 53) (.iconst 1, 1, 54, 1, 0, 0) nopI)) (cond (Nat.ble pc 54) (cond (Nat.beq pc 54) (.isub, 1, 55, 0, 0, 0) nopI) (cond (Nat.ble pc 57) (cond (Nat.beq pc 55) (.invokevirtual 21, 3, 58, 0, 0, 0) nopI) (cond (Nat.beq pc 58) (.return_, 1, 59, 0, 0, 0) nopI)))))))
def m_X2_takeFirstOff : MI := (yX2_takeFirstOff, cX2_takeFirstOff, 4, none, (2, 45, 0, 0), 59, k_X2_takeFirstOff)
set_option maxRecDepth 100000 in
theorem ok_X2_takeFirstOff : MOk m_X2_takeFirstOff := MOk.of (by decide +kernel) (fun _ => rfl)
theorem om_X2_takeFirstOff : okM m_X2_takeFirstOff = true := by decide +kernel
def k_X8_isValve (pc : Nat) : Ins := cond (Nat.ble 15 pc) nopI (cond (Nat.ble pc 5) (cond (Nat.ble pc 3) (cond (Nat.ble pc 0) (cond (Nat.beq pc 0) (.iload_n 0, 1, 1, 0, 0, 0) nopI) (cond (Nat.beq pc 1) (.ifCond .eq 8, 3, 4, 0, 9, 0) nopI)) (cond (Nat.ble pc 4) (cond (Nat.beq pc 4) (.iload_n 0, 1, 5, 0, 0, 0) nopI) (cond (Nat.beq pc 5) (.iconst 1, 1, 6, 1, 0, 0) nopI))) (cond (Nat.ble pc 9) (cond (Nat.ble pc 8) (cond (Nat.beq pc 6) (.if_icmp .ne 7, 3, 9, 0, 13, 0) nopI) (cond (Nat.beq pc 9) (.iconst 1, 1, 10, 1, 0, 0) nopI)) (cond (Nat.ble pc 12) (cond (Nat.beq pc 10) (.goto 4, 3, 13, 0, 14, 0) nopI) (cond (Nat.ble pc 13) (cond (Nat.beq pc 13) (.iconst 0, 1, 14, 0, 0, 0) nopI) (cond (Nat.beq pc 14) (.ireturn, 1, 15, 0, 0, 0) nopI)))))
def m_X8_isValve : MI := (yX8_isValve, cX8_isValve, 1, (some .boolean), (0, 0, 0, 0), 15, k_X8_isValve)
set_option maxRecDepth 100000 in
theorem ok_X8_isValve : MOk m_X8_isValve := MOk.of (by decide +kernel) (fun _ => rfl)
theorem om_X8_isValve : okM m_X8_isValve = true := by decide +kernel
def k_X2_reasonToRefuse (pc : Nat) : Ins := cond (Nat.ble 117 pc) nopI (cond (Nat.ble pc 46) (cond (Nat.ble pc 24) (cond (Nat.ble pc 14) (cond (Nat.ble pc 6) (cond (Nat.ble pc 0) (cond (Nat.beq pc 0) (.iload_n 1, 1, 1, 0, 1, 0) nopI) (cond (Nat.ble pc 3) (cond (Nat.beq pc 1) (.invokestatic 36, 3, 4, 0, 0, 0) nopI) (cond (Nat.beq pc 4) (.ifCond .eq 31, 3, 7, 0, 35, 0) nopI))) (cond (Nat.ble pc 10) (cond (Nat.ble pc 7) (cond (Nat.beq pc 7) (.iload_n 1, 1, 8, 0, 1, 0) nopI) (cond (Nat.beq pc 8) (.ifCond .ne 7, 3, 11, 0, 15, 0) nopI)) (cond (Nat.ble pc 11) (cond (Nat.beq pc 11) (.iconst 1, 1, 12, 1, 0, 0) nopI) (cond (Nat.beq pc 12) (.goto 4, 3, 15, 0, 16, 0) nopI)))) (cond (Nat.ble pc 17) (cond (Nat.ble pc 15) (cond (Nat.beq pc 15) (.iconst 0, 1, 16, 0, 0, 0) nopI) (cond (Nat.ble pc 16) (cond (Nat.beq pc 16) (.istore_n 3, 1, 17, 0, 3, 0) nopI) (cond (Nat.beq pc 17) (.aload_n 0, 1, 18, 0, 0, 0) nopI))) (cond (Nat.ble pc 20) (cond (Nat.ble pc 19) (cond (Nat.beq pc 18) (.bipush 123, 2, 20, 123, 0, 0) nopI) (cond (Nat.beq pc 20) (.iload_n 2, 1, 21, 0, 2, 0) nopI)) (cond (Nat.ble pc 21) (cond (Nat.beq pc 21) (.iadd, 1, 22, 0, 0, 0) nopI) (cond (Nat.beq pc 22) (.invokevirtual 11, 3, 25, 0, 0, 0) nopI))))) (cond (Nat.ble pc 35) (cond (Nat.ble pc 29) (cond (Nat.ble pc 25) (cond (Nat.beq pc 25) (.iload_n 3, 1, 26, 0, 3, 0) nopI) (cond (Nat.ble pc 28) (cond (Nat.beq pc 26) (.if_icmp .ne 7, 3, 29, 0, 33, 0) nopI) (cond (Nat.beq pc 29) (.iconst 1, 1, 30, 1, 0, 0) nopI))) (cond (Nat.ble pc 33) (cond (Nat.ble pc 32) (cond (Nat.beq pc 30) (.goto 4, 3, 33, 0, 34, 0) nopI) (cond (Nat.beq pc 33) (.iconst 0, 1, 34, 0, 0, 0) nopI)) (cond (Nat.ble pc 34) (cond (Nat.beq pc 34) (.ireturn, 1, 35, 0, 0, 0) nopI) (cond (Nat.beq pc 35) (.aload_n 0, 1, 36, 0, 0, 0) nopI)))) (cond (Nat.ble pc 40) (cond (Nat.ble pc 38) (cond (Nat.beq pc 36) (.invokevirtual 46, 3, 39, 0, 0, 0) nopI) (cond (Nat.ble pc 39) (cond (Nat.beq pc 39) (.istore_n 3, 1, 40, 0, 3, 0) nopI) (cond (Nat.beq pc 40) (.iload_n 3, 1, 41, 0, 3, 0) nopI))) (cond (Nat.ble pc 44) (cond (Nat.ble pc 43) (cond (Nat.beq pc 41) (.ifCond .ne 5, 3, 44, 0, 46, 0) nopI) (cond (Nat.beq pc 44) (.iconst 2, 1, 45, 2, 0, 0) nopI)) (cond (Nat.ble pc 45) (cond (Nat.beq pc 45) (.ireturn, 1, 46, 0, 0, 0) nopI) (cond (Nat.beq pc 46) (.iload_n 1, 1, 47, 0, 1, 0) nopI)))))) (cond (Nat.ble pc 92) (cond (Nat.ble pc 81) (cond (Nat.ble pc 73) (cond (Nat.ble pc 71) (cond (Nat.beq pc 47) (.lookupswitch 55 #[(2, 25), (3, 40)], 25, 72, 0, 0, 0) nopI) (cond (Nat.ble pc 72) (cond (Nat.beq pc 72) (.aload_n 0, 1, 73, 0, 0, 0) nopI) (cond (Nat.beq pc 73) (.iload_n 3, 1, 74, 0, 3, 0) nopI))) (cond (Nat.ble pc 77) (cond (Nat.ble pc 76) (cond (Nat.beq pc 74) (.invokestatic 50, 3, 77, 0, 0, 0) nopI) (cond (Nat.beq pc 77) (.iconst (-1), 1, 78, -1, 0, 0) nopI)) (cond (Nat.ble pc 80) (cond (Nat.beq pc 78) (.if_icmp .ne 7, 3, 81, 0, 85, 0) nopI) (cond (Nat.beq pc 81) (.iconst 3, 1, 82, 3, 0, 0) nopI)))) (cond (Nat.ble pc 86) (cond (Nat.ble pc 84) (cond (Nat.beq pc 82) (.goto 4, 3, 85, 0, 86, 0) nopI) (cond (Nat.ble pc 85) (cond (Nat.beq pc 85) (.iconst 0, 1, 86, 0, 0, 0) nopI) (cond (Nat.beq pc 86) (.ireturn, 1, 87, 0, 0, 0) nopI))) (cond (Nat.ble pc 88) (cond (Nat.ble pc 87) (cond (Nat.beq pc 87) (.aload_n 0, 1, 88, 0, 0, 0) nopI) (cond (Nat.beq pc 88) (.iload_n 3, 1, 89, 0, 3, 0) nopI)) (cond (Nat.ble pc 91) (cond (Nat.beq pc 89) (.invokestatic 56, 3, 92, 0, 0, 0) nopI) (cond (Nat.beq pc 92) (.iconst (-1), 1, 93, -1, 0, 0) nopI))))) (cond (Nat.ble pc 103) (cond (Nat.ble pc 99) (cond (Nat.ble pc 95) (cond (Nat.beq pc 93) (.if_icmp .ne 7, 3, 96, 0, 100, 0) nopI) (cond (Nat.ble pc 96) (cond (Nat.beq pc 96) (.iconst 4, 1, 97, 4, 0, 0) nopI) (cond (Nat.beq pc 97) (.goto 4, 3, 100, 0, 101, 0) nopI))) (cond (Nat.ble pc 101) (cond (Nat.ble pc 100) (cond (Nat.beq pc 100) (.iconst 0, 1, 101, 0, 0, 0) nopI) (cond (Nat.beq pc 101) (.ireturn, 1, 102, 0, 0, 0) nopI)) (cond (Nat.ble pc 102) (cond (Nat.beq pc 102) (.aload_n 0, 1, 103, 0, 0, 0) nopI) (cond (Nat.beq pc 103) (.iload_n 3, 1, 104, 0, 3, 0) nopI)))) (cond (Nat.ble pc 110) (cond (Nat.ble pc 106) (cond (Nat.beq pc 104) (.invokestatic 59, 3, 107, 0, 0, 0) nopI) (cond (Nat.ble pc 107) (cond (Nat.beq pc 107) (.iconst (-1), 1, 108, -1, 0, 0) nopI) (cond (Nat.beq pc 108) (.if_icmp .ne 7, 3, 111, 0, 115, 0) nopI))) (cond (Nat.ble pc 114) (cond (Nat.ble pc 111) (cond (Nat.beq pc 111) (.iconst 5, 1, 112, 5, 0, 0) nopI) (cond (Nat.beq pc 112) (.goto 4, 3, 115, 0, 116, 0) nopI)) (cond (Nat.ble pc 115) (cond (Nat.beq pc 115) (.iconst 0, 1, 116, 0, 0, 0) nopI) (cond (Nat.beq pc 116) (.ireturn, 1, 117, 0, 0, 0) nopI)))))))
def m_X2_reasonToRefuse : MI := (yX2_reasonToRefuse, cX2_reasonToRefuse, 4, (some .int), (3, 68, 0, 0), 117, k_X2_reasonToRefuse)
set_option maxRecDepth 100000 in
theorem ok_X2_reasonToRefuse : MOk m_X2_reasonToRefuse := MOk.of (by decide +kernel) (fun _ => rfl)
theorem om_X2_reasonToRefuse : okM m_X2_reasonToRefuse = true := by decide +kernel
def k_X2_workFirst (pc : Nat) : Ins := cond (Nat.ble 85 pc) nopI (cond (Nat.ble pc 43) (cond (Nat.ble pc 22) (cond (Nat.ble pc 10) (cond (Nat.ble pc 3) (cond (Nat.ble pc 0) (cond (Nat.beq pc 0) (.aload_n 0, 1, 1, 0, 0, 0) nopI) (cond (Nat.beq pc 1) (.sipush 155, 3, 4, 155, 0, 0) nopI)) (cond (Nat.ble pc 6) (cond (Nat.beq pc 4) (.invokevirtual 11, 3, 7, 0, 0, 0) nopI) (cond (Nat.ble pc 9) (cond (Nat.beq pc 7) (.ifCond .ne 4, 3, 10, 0, 11, 0) nopI) (cond (Nat.beq pc 10) (.return_, 1, 11, 0, 0, 0) nopI)))) (cond (Nat.ble pc 17) (cond (Nat.ble pc 11) (cond (Nat.beq pc 11) (.aload_n 0, 1, 12, 0, 0, 0) nopI) (cond (Nat.ble pc 14) (cond (Nat.beq pc 12) (.sipush 131, 3, 15, 131, 0, 0) nopI) (cond (Nat.beq pc 15) (.invokevirtual 11, 3, 18, 0, 0, 0) nopI))) (cond (Nat.ble pc 18) (cond (Nat.beq pc 18) (.istore_n 1, 1, 19, 0, 1, 0) nopI) (cond (Nat.ble pc 19) (cond (Nat.beq pc 19) (.aload_n 0, 1, 20, 0, 0, 0) nopI) (cond (Nat.beq pc 20) (.sipush 143, 3, 23, 143, 0, 0) nopI))))) (cond (Nat.ble pc 31) (cond (Nat.ble pc 26) (cond (Nat.ble pc 25) (cond (Nat.beq pc 23) (.invokevirtual 11, 3, 26, 0, 0, 0) nopI) (cond (Nat.beq pc 26) (.istore_n 2, 1, 27, 0, 2, 0) nopI)) (cond (Nat.ble pc 27) (cond (Nat.beq pc 27) (.aload_n 0, 1, 28, 0, 0, 0) nopI) (cond (Nat.ble pc 30) (cond (Nat.beq pc 28) (.invokestatic 25, 3, 31, 0, 0, 0) nopI) (cond (Nat.beq pc 31) (.aload_n 0, 1, 32, 0, 0, 0) nopI)))) (cond (Nat.ble pc 36) (cond (Nat.ble pc 32) (cond (Nat.beq pc 32) (.iload_n 1, 1, 33, 0, 1, 0) nopI) (cond (Nat.ble pc 33) (cond (Nat.beq pc 33) (.iload_n 2, 1, 34, 0, 2, 0) nopI) (cond (Nat.beq pc 34) (.invokestatic 29, 3, 37, 0, 0, 0) nopI))) (cond (Nat.ble pc 39) (cond (Nat.beq pc 37) (.ifCond .eq 14, 3, 40, 0, 51, 0) nopI) (cond (Nat.ble pc 40) (cond (Nat.beq pc 40) (.aload_n 0, 1, 41, 0, 0, 0) nopI) (cond (Nat.beq pc 41) (.sipush 160, 3, 44, 160, 0, 0) nopI)))))) (cond (Nat.ble pc 63) (cond (Nat.ble pc 54) (cond (Nat.ble pc 47) (cond (Nat.ble pc 44) (cond (Nat.beq pc 44) (.iconst 1, 1, 45, 1, 0, 0) nopI) (cond (Nat.beq pc 45) (.invokevirtual 33, 3, 48, 0, 0, 0) nopI)) (cond (Nat.ble pc 50) (cond (Nat.beq pc 48) (.goto 36, 3, 51, 0, 84, 0) nopI) (cond (Nat.ble pc 51) (cond (Nat.beq pc 51) (.iload_n 1, 1, 52, 0, 1, 0) nopI) (cond (Nat.beq pc 52) (.invokestatic 36, 3, 55, 0, 0, 0) nopI)))) (cond (Nat.ble pc 60) (cond (Nat.ble pc 57) (cond (Nat.beq pc 55) (.ifCond .eq 23, 3, 58, 0, 78, 0) nopI) (cond (Nat.ble pc 58) (cond (Nat.beq pc 58) (.aload_n 0, 1, 59, 0, 0, 0) nopI) (cond (Nat.beq pc 59) (.bipush 123, 2, 61, 123, 0, 0) nopI))) (cond (Nat.ble pc 61) (cond (Nat.beq pc 61) (.iload_n 2, 1, 62, 0, 2, 0) nopI) (cond (Nat.ble pc 62) (cond (Nat.beq pc 62) (.iadd, 1, 63, 0, 0, 0) nopI) (cond (Nat.beq pc 63) (.iload_n 1, 1, 64, 0, 1, 0) nopI))))) (cond (Nat.ble pc 74) (cond (Nat.ble pc 67) (cond (Nat.ble pc 66) (cond (Nat.beq pc 64) (.ifCond .ne 7, 3, 67, 0, 71, 0) nopI) (cond (Nat.beq pc 67) (.iconst 1, 1, 68, 1, 0, 0) nopI)) (cond (Nat.ble pc 70) (cond (Nat.beq pc 68) (.goto 4, 3, 71, 0, 72, 0) nopI) (cond (Nat.ble pc 71) (cond (Nat.beq pc 71) (.iconst 0, 1, 72, 0, 0, 0) nopI) (cond (Nat.beq pc 72) (.invokevirtual 21, 3, 75, 0, 0, 0) nopI)))) (cond (Nat.ble pc 79) (cond (Nat.ble pc 77) (cond (Nat.beq pc 75) (.goto 9, 3, 78, 0, 84, 0) nopI) (cond (Nat.ble pc 78) (cond (Nat.beq pc 78) (.aload_n 0, 1, 79, 0, 0, 0) nopI) (cond (Nat.beq pc 79) (.iload_n 1, 1, 80, 0, 1, 0) nopI))) (cond (Nat.ble pc 80) (cond (Nat.beq pc 80) (.iload_n 2, 1, 81, 0, 2, 0) nopI) (cond (Nat.ble pc 83) (cond (Nat.beq pc 81) (.invokestatic 40, 3, 84, 0, 0, 0) nopI) (cond (Nat.beq pc 84) (.return_, 1, 85, 0, 0, 0) nopI)))))))
def m_X2_workFirst : MI := (yX2_workFirst, cX2_workFirst, 3, none, (5, 117, 0, 0), 85, k_X2_workFirst)
set_option maxRecDepth 100000 in
theorem ok_X2_workFirst : MOk m_X2_workFirst := MOk.of (by decide +kernel) (fun _ => rfl)
theorem om_X2_workFirst : okM m_X2_workFirst = true := by decide +kernel
def k_X3_init (pc : Nat) : Ins := cond (Nat.ble 29 pc) nopI (cond (Nat.ble pc 12) (cond (Nat.ble pc 4) (cond (Nat.ble pc 0) (cond (Nat.beq pc 0) (.aload_n 0, 1, 1, 0, 0, 0) nopI) (cond (Nat.ble pc 3) (cond (Nat.beq pc 1) (.invokespecial 3, 3, 4, 0, 0, 0) nopI) (cond (Nat.beq pc 4) (.aload_n 0, 1, 5, 0, 0, 0) nopI))) (cond (Nat.ble pc 8) (cond (Nat.ble pc 6) (cond (Nat.beq pc 5) (.bipush 60, 2, 7, 60, 0, 0) nopI) (cond (Nat.beq pc 7) (.newarray .char, 2, 9, 0, 0, 0) nopI)) (cond (Nat.ble pc 11) (cond (Nat.beq pc 9) (.putfield 9, 3, 12, 0, 1, 0) nopI) (cond (Nat.beq pc 12) (.aload_n 0, 1, 13, 0, 0, 0) nopI)))) (cond (Nat.ble pc 20) (cond (Nat.ble pc 16) (cond (Nat.ble pc 14) (cond (Nat.beq pc 13) (.bipush 60, 2, 15, 60, 0, 0) nopI) (cond (Nat.beq pc 15) (.newarray .int, 2, 17, 0, 0, 0) nopI)) (cond (Nat.ble pc 19) (cond (Nat.beq pc 17) (.putfield 15, 3, 20, 0, 1, 2) nopI) (cond (Nat.beq pc 20) (.aload_n 0, 1, 21, 0, 0, 0) nopI))) (cond (Nat.ble pc 24) (cond (Nat.ble pc 22) (cond (Nat.beq pc 21) (.bipush 60, 2, 23, 60, 0, 0) nopI) (cond (Nat.beq pc 23) (.newarray .int, 2, 25, 0, 0, 0) nopI)) (cond (Nat.ble pc 27) (cond (Nat.beq pc 25) (.putfield 19, 3, 28, 0, 1, 3) nopI) (cond (Nat.beq pc 28) (.return_, 1, 29, 0, 0, 0) nopI)))))
def m_X3_init : MI := (yX3_init, cX3_init, 1, none, (1, 20, 3, 180), 29, k_X3_init)
set_option maxRecDepth 100000 in
theorem ok_X3_init : MOk m_X3_init := MOk.of (by decide +kernel) (fun _ => rfl)
theorem om_X3_init : okM m_X3_init = true := by decide +kernel
def k_X3_length (pc : Nat) : Ins := cond (Nat.ble 5 pc) nopI (cond (Nat.ble pc 0) (cond (Nat.beq pc 0) (.aload_n 0, 1, 1, 0, 0, 0) nopI) (cond (Nat.ble pc 3) (cond (Nat.beq pc 1) (.getfield 22, 3, 4, 0, 1, 1) nopI) (cond (Nat.beq pc 4) (.ireturn, 1, 5, 0, 0, 0) nopI)))
def m_X3_length : MI := (yX3_length, cX3_length, 1, (some .int), (0, 0, 0, 0), 5, k_X3_length)
set_option maxRecDepth 100000 in
theorem ok_X3_length : MOk m_X3_length := MOk.of (by decide +kernel) (fun _ => rfl)
theorem om_X3_length : okM m_X3_length = true := by decide +kernel
def k_X5_place (pc : Nat) : Ins := cond (Nat.ble 6 pc) nopI (cond (Nat.ble pc 2) (cond (Nat.ble pc 0) (cond (Nat.beq pc 0) (.iload_n 0, 1, 1, 0, 0, 0) nopI) (cond (Nat.ble pc 1) (cond (Nat.beq pc 1) (.iconst 3, 1, 2, 3, 0, 0) nopI) (cond (Nat.beq pc 2) (.imul, 1, 3, 0, 0, 0) nopI))) (cond (Nat.ble pc 3) (cond (Nat.beq pc 3) (.iload_n 1, 1, 4, 0, 1, 0) nopI) (cond (Nat.ble pc 4) (cond (Nat.beq pc 4) (.iadd, 1, 5, 0, 0, 0) nopI) (cond (Nat.beq pc 5) (.ireturn, 1, 6, 0, 0, 0) nopI))))
def m_X5_place : MI := (yX5_place, cX5_place, 2, (some .int), (0, 0, 0, 0), 6, k_X5_place)
set_option maxRecDepth 100000 in
theorem ok_X5_place : MOk m_X5_place := MOk.of (by decide +kernel) (fun _ => rfl)
theorem om_X5_place : okM m_X5_place = true := by decide +kernel
def k_X5_putAt (pc : Nat) : Ins := cond (Nat.ble 29 pc) nopI (cond (Nat.ble pc 12) (cond (Nat.ble pc 4) (cond (Nat.ble pc 2) (cond (Nat.ble pc 0) (cond (Nat.beq pc 0) (.aload_n 0, 1, 1, 0, 0, 0) nopI) (cond (Nat.beq pc 1) (.bipush 40, 2, 3, 40, 0, 0) nopI)) (cond (Nat.ble pc 3) (cond (Nat.beq pc 3) (.iload_n 1, 1, 4, 0, 1, 0) nopI) (cond (Nat.beq pc 4) (.iadd, 1, 5, 0, 0, 0) nopI))) (cond (Nat.ble pc 8) (cond (Nat.ble pc 5) (cond (Nat.beq pc 5) (.iload_n 2, 1, 6, 0, 2, 0) nopI) (cond (Nat.beq pc 6) (.invokevirtual 30, 3, 9, 0, 0, 0) nopI)) (cond (Nat.ble pc 9) (cond (Nat.beq pc 9) (.aload_n 0, 1, 10, 0, 0, 0) nopI) (cond (Nat.ble pc 11) (cond (Nat.beq pc 10) (.bipush 64, 2, 12, 64, 0, 0) nopI) (cond (Nat.beq pc 12) (.iload_n 1, 1, 13, 0, 1, 0) nopI))))) (cond (Nat.ble pc 20) (cond (Nat.ble pc 14) (cond (Nat.ble pc 13) (cond (Nat.beq pc 13) (.iadd, 1, 14, 0, 0, 0) nopI) (cond (Nat.beq pc 14) (.iload_n 3, 1, 15, 0, 3, 0) nopI)) (cond (Nat.ble pc 17) (cond (Nat.beq pc 15) (.invokevirtual 30, 3, 18, 0, 0, 0) nopI) (cond (Nat.ble pc 18) (cond (Nat.beq pc 18) (.aload_n 0, 1, 19, 0, 0, 0) nopI) (cond (Nat.beq pc 19) (.bipush 88, 2, 21, 88, 0, 0) nopI)))) (cond (Nat.ble pc 22) (cond (Nat.ble pc 21) (cond (Nat.beq pc 21) (.iload_n 1, 1, 22, 0, 1, 0) nopI) (cond (Nat.beq pc 22) (.iadd, 1, 23, 0, 0, 0) nopI)) (cond (Nat.ble pc 24) (cond (Nat.beq pc 23) (.iload 4, 2, 25, 0, 4, 0) nopI) (cond (Nat.ble pc 27) (cond (Nat.beq pc 25) (.invokevirtual 30, 3, 28, 0, 0, 0) nopI) (cond (Nat.beq pc 28) (.return_, 1, 29, 0, 0, 0) nopI))))))
def m_X5_putAt : MI := (yX5_putAt, cX5_putAt, 5, none, (1, 22, 0, 0), 29, k_X5_putAt)
set_option maxRecDepth 100000 in
theorem ok_X5_putAt : MOk m_X5_putAt := MOk.of (by decide +kernel) (fun _ => rfl)
theorem om_X5_putAt : okM m_X5_putAt = true := by decide +kernel
def k_X5_put (pc : Nat) : Ins := cond (Nat.ble 112 pc) nopI (cond (Nat.ble pc 53) (cond (Nat.ble pc 22) (cond (Nat.ble pc 11) (cond (Nat.ble pc 5) (cond (Nat.ble pc 1) (cond (Nat.ble pc 0) (cond (Nat.beq pc 0) (.iload_n 1, 1, 1, 0, 1, 0) nopI) (cond (Nat.beq pc 1) (.iconst 0, 1, 2, 0, 0, 0) nopI)) (cond (Nat.ble pc 4) (cond (Nat.beq pc 2) (.invokestatic 9, 3, 5, 0, 0, 0) nopI) (cond (Nat.beq pc 5) (.istore_n 2, 1, 6, 0, 2, 0) nopI))) (cond (Nat.ble pc 7) (cond (Nat.ble pc 6) (cond (Nat.beq pc 6) (.iconst 2, 1, 7, 2, 0, 0) nopI) (cond (Nat.beq pc 7) (.istore_n 3, 1, 8, 0, 3, 0) nopI)) (cond (Nat.ble pc 8) (cond (Nat.beq pc 8) (.iload_n 3, 1, 9, 0, 3, 0) nopI) (cond (Nat.beq pc 9) (.ifCond .le 51, 3, 12, 0, 60, 0) nopI)))) (cond (Nat.ble pc 15) (cond (Nat.ble pc 13) (cond (Nat.ble pc 12) (cond (Nat.beq pc 12) (.iload_n 2, 1, 13, 0, 2, 0) nopI) (cond (Nat.beq pc 13) (.iload_n 3, 1, 14, 0, 3, 0) nopI)) (cond (Nat.ble pc 14) (cond (Nat.beq pc 14) (.iadd, 1, 15, 0, 0, 0) nopI) (cond (Nat.beq pc 15) (.iconst 1, 1, 16, 1, 0, 0) nopI))) (cond (Nat.ble pc 18) (cond (Nat.ble pc 16) (cond (Nat.beq pc 16) (.isub, 1, 17, 0, 0, 0) nopI) (cond (Nat.beq pc 17) (.istore 4, 2, 19, 0, 4, 0) nopI)) (cond (Nat.ble pc 19) (cond (Nat.beq pc 19) (.aload_n 0, 1, 20, 0, 0, 0) nopI) (cond (Nat.ble pc 21) (cond (Nat.beq pc 20) (.iload 4, 2, 22, 0, 4, 0) nopI) (cond (Nat.beq pc 22) (.iconst 1, 1, 23, 1, 0, 0) nopI)))))) (cond (Nat.ble pc 35) (cond (Nat.ble pc 28) (cond (Nat.ble pc 24) (cond (Nat.ble pc 23) (cond (Nat.beq pc 23) (.iadd, 1, 24, 0, 0, 0) nopI) (cond (Nat.beq pc 24) (.aload_n 0, 1, 25, 0, 0, 0) nopI)) (cond (Nat.ble pc 26) (cond (Nat.beq pc 25) (.bipush 40, 2, 27, 40, 0, 0) nopI) (cond (Nat.beq pc 27) (.iload 4, 2, 29, 0, 4, 0) nopI))) (cond (Nat.ble pc 32) (cond (Nat.ble pc 29) (cond (Nat.beq pc 29) (.iadd, 1, 30, 0, 0, 0) nopI) (cond (Nat.beq pc 30) (.invokevirtual 17, 3, 33, 0, 0, 0) nopI)) (cond (Nat.ble pc 33) (cond (Nat.beq pc 33) (.aload_n 0, 1, 34, 0, 0, 0) nopI) (cond (Nat.beq pc 34) (.bipush 64, 2, 36, 64, 0, 0) nopI)))) (cond (Nat.ble pc 42) (cond (Nat.ble pc 38) (cond (Nat.ble pc 37) (cond (Nat.beq pc 36) (.iload 4, 2, 38, 0, 4, 0) nopI) (cond (Nat.beq pc 38) (.iadd, 1, 39, 0, 0, 0) nopI)) (cond (Nat.ble pc 41) (cond (Nat.beq pc 39) (.invokevirtual 17, 3, 42, 0, 0, 0) nopI) (cond (Nat.beq pc 42) (.aload_n 0, 1, 43, 0, 0, 0) nopI))) (cond (Nat.ble pc 46) (cond (Nat.ble pc 44) (cond (Nat.beq pc 43) (.bipush 88, 2, 45, 88, 0, 0) nopI) (cond (Nat.beq pc 45) (.iload 4, 2, 47, 0, 4, 0) nopI)) (cond (Nat.ble pc 47) (cond (Nat.beq pc 47) (.iadd, 1, 48, 0, 0, 0) nopI) (cond (Nat.ble pc 50) (cond (Nat.beq pc 48) (.invokevirtual 17, 3, 51, 0, 0, 0) nopI) (cond (Nat.beq pc 51) (.invokestatic 21, 3, 54, 0, 0, 0) nopI))))))) (cond (Nat.ble pc 83) (cond (Nat.ble pc 69) (cond (Nat.ble pc 61) (cond (Nat.ble pc 59) (cond (Nat.ble pc 56) (cond (Nat.beq pc 54) (.iinc 3 (-1), 3, 57, -1, 3, 0) nopI) (cond (Nat.beq pc 57) (.goto (-49), 3, 60, 0, 8, 0) nopI)) (cond (Nat.ble pc 60) (cond (Nat.beq pc 60) (.aload_n 0, 1, 61, 0, 0, 0) nopI) (cond (Nat.beq pc 61) (.iload_n 2, 1, 62, 0, 2, 0) nopI))) (cond (Nat.ble pc 65) (cond (Nat.ble pc 62) (cond (Nat.beq pc 62) (.aload_n 0, 1, 63, 0, 0, 0) nopI) (cond (Nat.beq pc 63) (.sipush 156, 3, 66, 156, 0, 0) nopI)) (cond (Nat.ble pc 68) (cond (Nat.beq pc 66) (.invokevirtual 17, 3, 69, 0, 0, 0) nopI) (cond (Nat.beq pc 69) (.aload_n 0, 1, 70, 0, 0, 0) nopI)))) (cond (Nat.ble pc 75) (cond (Nat.ble pc 71) (cond (Nat.ble pc 70) (cond (Nat.beq pc 70) (.iconst 0, 1, 71, 0, 0, 0) nopI) (cond (Nat.beq pc 71) (.iload_n 1, 1, 72, 0, 1, 0) nopI)) (cond (Nat.ble pc 72) (cond (Nat.beq pc 72) (.iadd, 1, 73, 0, 0, 0) nopI) (cond (Nat.beq pc 73) (.invokevirtual 17, 3, 76, 0, 0, 0) nopI))) (cond (Nat.ble pc 78) (cond (Nat.ble pc 76) (cond (Nat.beq pc 76) (.aload_n 0, 1, 77, 0, 0, 0) nopI) (cond (Nat.beq pc 77) (.bipush 24, 2, 79, 24, 0, 0) nopI)) (cond (Nat.ble pc 79) (cond (Nat.beq pc 79) (.iload_n 1, 1, 80, 0, 1, 0) nopI) (cond (Nat.ble pc 80) (cond (Nat.beq pc 80) (.iadd, 1, 81, 0, 0, 0) nopI) (cond (Nat.beq pc 81) (.invokevirtual 17, 3, 84, 0, 0, 0) nopI)))))) (cond (Nat.ble pc 98) (cond (Nat.ble pc 90) (cond (Nat.ble pc 87) (cond (Nat.ble pc 86) (cond (Nat.beq pc 84) (.invokestatic 21, 3, 87, 0, 0, 0) nopI) (cond (Nat.beq pc 87) (.aload_n 0, 1, 88, 0, 0, 0) nopI)) (cond (Nat.ble pc 89) (cond (Nat.beq pc 88) (.bipush 32, 2, 90, 32, 0, 0) nopI) (cond (Nat.beq pc 90) (.iload_n 1, 1, 91, 0, 1, 0) nopI))) (cond (Nat.ble pc 94) (cond (Nat.ble pc 91) (cond (Nat.beq pc 91) (.iadd, 1, 92, 0, 0, 0) nopI) (cond (Nat.beq pc 92) (.invokevirtual 17, 3, 95, 0, 0, 0) nopI)) (cond (Nat.ble pc 95) (cond (Nat.beq pc 95) (.istore_n 3, 1, 96, 0, 3, 0) nopI) (cond (Nat.ble pc 96) (cond (Nat.beq pc 96) (.aload_n 0, 1, 97, 0, 0, 0) nopI) (cond (Nat.beq pc 97) (.bipush 32, 2, 99, 32, 0, 0) nopI))))) (cond (Nat.ble pc 102) (cond (Nat.ble pc 100) (cond (Nat.ble pc 99) (cond (Nat.beq pc 99) (.iload_n 1, 1, 100, 0, 1, 0) nopI) (cond (Nat.beq pc 100) (.iadd, 1, 101, 0, 0, 0) nopI)) (cond (Nat.ble pc 101) (cond (Nat.beq pc 101) (.iload_n 3, 1, 102, 0, 3, 0) nopI) (cond (Nat.beq pc 102) (.iconst 1, 1, 103, 1, 0, 0) nopI))) (cond (Nat.ble pc 104) (cond (Nat.ble pc 103) (cond (Nat.beq pc 103) (.iadd, 1, 104, 0, 0, 0) nopI) (cond (Nat.beq pc 104) (.iconst 3, 1, 105, 3, 0, 0) nopI)) (cond (Nat.ble pc 107) (cond (Nat.beq pc 105) (.invokestatic 25, 3, 108, 0, 0, 0) nopI) (cond (Nat.ble pc 110) (cond (Nat.beq pc 108) (.invokevirtual 30, 3, 111, 0, 0, 0) nopI) (cond (Nat.beq pc 111) (.return_, 1, 112, 0, 0, 0) nopI))))))))
def m_X5_put : MI := (yX5_put, cX5_put, 5, none, (2, 46, 0, 0), 112, k_X5_put)
set_option maxRecDepth 100000 in
theorem ok_X5_put : MOk m_X5_put := MOk.of (by decide +kernel) (fun _ => rfl)
theorem om_X5_put : okM m_X5_put = true := by decide +kernel
def k_X5_isLossTold (pc : Nat) : Ins := cond (Nat.ble 49 pc) nopI (cond (Nat.ble pc 21) (cond (Nat.ble pc 10) (cond (Nat.ble pc 3) (cond (Nat.ble pc 1) (cond (Nat.beq pc 0) (.bipush 88, 2, 2, 88, 0, 0) nopI) (cond (Nat.ble pc 2) (cond (Nat.beq pc 2) (.iload_n 1, 1, 3, 0, 1, 0) nopI) (cond (Nat.beq pc 3) (.iconst 0, 1, 4, 0, 0, 0) nopI))) (cond (Nat.ble pc 7) (cond (Nat.ble pc 6) (cond (Nat.beq pc 4) (.invokestatic 9, 3, 7, 0, 0, 0) nopI) (cond (Nat.beq pc 7) (.iadd, 1, 8, 0, 0, 0) nopI)) (cond (Nat.ble pc 8) (cond (Nat.beq pc 8) (.istore_n 2, 1, 9, 0, 2, 0) nopI) (cond (Nat.beq pc 9) (.bipush 88, 2, 11, 88, 0, 0) nopI)))) (cond (Nat.ble pc 16) (cond (Nat.ble pc 12) (cond (Nat.ble pc 11) (cond (Nat.beq pc 11) (.iload_n 1, 1, 12, 0, 1, 0) nopI) (cond (Nat.beq pc 12) (.iconst 1, 1, 13, 1, 0, 0) nopI)) (cond (Nat.ble pc 15) (cond (Nat.beq pc 13) (.invokestatic 9, 3, 16, 0, 0, 0) nopI) (cond (Nat.beq pc 16) (.iadd, 1, 17, 0, 0, 0) nopI))) (cond (Nat.ble pc 18) (cond (Nat.ble pc 17) (cond (Nat.beq pc 17) (.istore_n 3, 1, 18, 0, 3, 0) nopI) (cond (Nat.beq pc 18) (.aload_n 0, 1, 19, 0, 0, 0) nopI)) (cond (Nat.ble pc 20) (cond (Nat.beq pc 19) (.bipush 32, 2, 21, 32, 0, 0) nopI) (cond (Nat.beq pc 21) (.iload_n 1, 1, 22, 0, 1, 0) nopI))))) (cond (Nat.ble pc 34) (cond (Nat.ble pc 26) (cond (Nat.ble pc 22) (cond (Nat.beq pc 22) (.iadd, 1, 23, 0, 0, 0) nopI) (cond (Nat.ble pc 25) (cond (Nat.beq pc 23) (.invokevirtual 17, 3, 26, 0, 0, 0) nopI) (cond (Nat.beq pc 26) (.iconst 2, 1, 27, 2, 0, 0) nopI))) (cond (Nat.ble pc 30) (cond (Nat.ble pc 29) (cond (Nat.beq pc 27) (.if_icmp .lt 20, 3, 30, 0, 47, 0) nopI) (cond (Nat.beq pc 30) (.aload_n 0, 1, 31, 0, 0, 0) nopI)) (cond (Nat.ble pc 31) (cond (Nat.beq pc 31) (.iload_n 2, 1, 32, 0, 2, 0) nopI) (cond (Nat.beq pc 32) (.invokevirtual 17, 3, 35, 0, 0, 0) nopI)))) (cond (Nat.ble pc 42) (cond (Nat.ble pc 36) (cond (Nat.ble pc 35) (cond (Nat.beq pc 35) (.aload_n 0, 1, 36, 0, 0, 0) nopI) (cond (Nat.beq pc 36) (.iload_n 3, 1, 37, 0, 3, 0) nopI)) (cond (Nat.ble pc 39) (cond (Nat.beq pc 37) (.invokevirtual 17, 3, 40, 0, 0, 0) nopI) (cond (Nat.beq pc 40) (.if_icmp .ne 7, 3, 43, 0, 47, 0) nopI))) (cond (Nat.ble pc 46) (cond (Nat.ble pc 43) (cond (Nat.beq pc 43) (.iconst 1, 1, 44, 1, 0, 0) nopI) (cond (Nat.beq pc 44) (.goto 4, 3, 47, 0, 48, 0) nopI)) (cond (Nat.ble pc 47) (cond (Nat.beq pc 47) (.iconst 0, 1, 48, 0, 0, 0) nopI) (cond (Nat.beq pc 48) (.ireturn, 1, 49, 0, 0, 0) nopI))))))
def m_X5_isLossTold : MI := (yX5_isLossTold, cX5_isLossTold, 4, (some .boolean), (1, 21, 0, 0), 49, k_X5_isLossTold)
set_option maxRecDepth 100000 in
theorem ok_X5_isLossTold : MOk m_X5_isLossTold := MOk.of (by decide +kernel) (fun _ => rfl)
theorem om_X5_isLossTold : okM m_X5_isLossTold = true := by decide +kernel
def k_X5_loss (pc : Nat) : Ins := cond (Nat.ble 30 pc) nopI (cond (Nat.ble pc 15) (cond (Nat.ble pc 7) (cond (Nat.ble pc 2) (cond (Nat.ble pc 1) (cond (Nat.beq pc 0) (.bipush 64, 2, 2, 64, 0, 0) nopI) (cond (Nat.beq pc 2) (.iload_n 1, 1, 3, 0, 1, 0) nopI)) (cond (Nat.ble pc 3) (cond (Nat.beq pc 3) (.iconst 0, 1, 4, 0, 0, 0) nopI) (cond (Nat.ble pc 6) (cond (Nat.beq pc 4) (.invokestatic 9, 3, 7, 0, 0, 0) nopI) (cond (Nat.beq pc 7) (.iadd, 1, 8, 0, 0, 0) nopI)))) (cond (Nat.ble pc 10) (cond (Nat.ble pc 8) (cond (Nat.beq pc 8) (.istore_n 2, 1, 9, 0, 2, 0) nopI) (cond (Nat.beq pc 9) (.bipush 64, 2, 11, 64, 0, 0) nopI)) (cond (Nat.ble pc 11) (cond (Nat.beq pc 11) (.iload_n 1, 1, 12, 0, 1, 0) nopI) (cond (Nat.ble pc 12) (cond (Nat.beq pc 12) (.iconst 1, 1, 13, 1, 0, 0) nopI) (cond (Nat.beq pc 13) (.invokestatic 9, 3, 16, 0, 0, 0) nopI))))) (cond (Nat.ble pc 22) (cond (Nat.ble pc 17) (cond (Nat.ble pc 16) (cond (Nat.beq pc 16) (.iadd, 1, 17, 0, 0, 0) nopI) (cond (Nat.beq pc 17) (.istore_n 3, 1, 18, 0, 3, 0) nopI)) (cond (Nat.ble pc 18) (cond (Nat.beq pc 18) (.aload_n 0, 1, 19, 0, 0, 0) nopI) (cond (Nat.ble pc 19) (cond (Nat.beq pc 19) (.iload_n 3, 1, 20, 0, 3, 0) nopI) (cond (Nat.beq pc 20) (.invokevirtual 17, 3, 23, 0, 0, 0) nopI)))) (cond (Nat.ble pc 24) (cond (Nat.ble pc 23) (cond (Nat.beq pc 23) (.aload_n 0, 1, 24, 0, 0, 0) nopI) (cond (Nat.beq pc 24) (.iload_n 2, 1, 25, 0, 2, 0) nopI)) (cond (Nat.ble pc 27) (cond (Nat.beq pc 25) (.invokevirtual 17, 3, 28, 0, 0, 0) nopI) (cond (Nat.ble pc 28) (cond (Nat.beq pc 28) (.isub, 1, 29, 0, 0, 0) nopI) (cond (Nat.beq pc 29) (.ireturn, 1, 30, 0, 0, 0) nopI))))))
def m_X5_loss : MI := (yX5_loss, cX5_loss, 4, (some .int), (1, 21, 0, 0), 30, k_X5_loss)
set_option maxRecDepth 100000 in
theorem ok_X5_loss : MOk m_X5_loss := MOk.of (by decide +kernel) (fun _ => rfl)
theorem om_X5_loss : okM m_X5_loss = true := by decide +kernel
def k_X6_init (pc : Nat) : Ins := cond (Nat.ble 93 pc) nopI (cond (Nat.ble pc 44) (cond (Nat.ble pc 24) (cond (Nat.ble pc 12) (cond (Nat.ble pc 4) (cond (Nat.ble pc 0) (cond (Nat.beq pc 0) (.aload_n 0, 1, 1, 0, 0, 0) nopI) (cond (Nat.ble pc 3) (cond (Nat.beq pc 1) (.invokespecial 5, 3, 4, 0, 0, 0) nopI) (cond (Nat.beq pc 4) (.aload_n 0, 1, 5, 0, 0, 0) nopI))) (cond (Nat.ble pc 7) (cond (Nat.beq pc 5) (.sipush 162, 3, 8, 162, 0, 0) nopI) (cond (Nat.ble pc 9) (cond (Nat.beq pc 8) (.newarray .int, 2, 10, 0, 0, 0) nopI) (cond (Nat.beq pc 10) (.putfield 11, 3, 13, 0, 2, 0) nopI)))) (cond (Nat.ble pc 15) (cond (Nat.ble pc 13) (cond (Nat.beq pc 13) (.iconst 0, 1, 14, 0, 0, 0) nopI) (cond (Nat.ble pc 14) (cond (Nat.beq pc 14) (.istore_n 1, 1, 15, 0, 1, 0) nopI) (cond (Nat.beq pc 15) (.iload_n 1, 1, 16, 0, 1, 0) nopI))) (cond (Nat.ble pc 20) (cond (Nat.ble pc 17) (cond (Nat.beq pc 16) (.bipush 8, 2, 18, 8, 0, 0) nopI) (cond (Nat.beq pc 18) (.if_icmp .ge 19, 3, 21, 0, 37, 0) nopI)) (cond (Nat.ble pc 21) (cond (Nat.beq pc 21) (.aload_n 0, 1, 22, 0, 0, 0) nopI) (cond (Nat.beq pc 22) (.getfield 11, 3, 25, 0, 2, 0) nopI))))) (cond (Nat.ble pc 33) (cond (Nat.ble pc 27) (cond (Nat.ble pc 25) (cond (Nat.beq pc 25) (.iconst 0, 1, 26, 0, 0, 0) nopI) (cond (Nat.ble pc 26) (cond (Nat.beq pc 26) (.iload_n 1, 1, 27, 0, 1, 0) nopI) (cond (Nat.beq pc 27) (.iadd, 1, 28, 0, 0, 0) nopI))) (cond (Nat.ble pc 29) (cond (Nat.beq pc 28) (.bipush 20, 2, 30, 20, 0, 0) nopI) (cond (Nat.ble pc 30) (cond (Nat.beq pc 30) (.iastore, 1, 31, 0, 0, 0) nopI) (cond (Nat.beq pc 31) (.iinc 1 1, 3, 34, 1, 1, 0) nopI)))) (cond (Nat.ble pc 38) (cond (Nat.ble pc 36) (cond (Nat.beq pc 34) (.goto (-19), 3, 37, 0, 15, 0) nopI) (cond (Nat.ble pc 37) (cond (Nat.beq pc 37) (.iconst 0, 1, 38, 0, 0, 0) nopI) (cond (Nat.beq pc 38) (.istore_n 1, 1, 39, 0, 1, 0) nopI))) (cond (Nat.ble pc 40) (cond (Nat.ble pc 39) (cond (Nat.beq pc 39) (.iload_n 1, 1, 40, 0, 1, 0) nopI) (cond (Nat.beq pc 40) (.iconst 5, 1, 41, 5, 0, 0) nopI)) (cond (Nat.ble pc 43) (cond (Nat.beq pc 41) (.if_icmp .ge 23, 3, 44, 0, 64, 0) nopI) (cond (Nat.beq pc 44) (.aload_n 0, 1, 45, 0, 0, 0) nopI)))))) (cond (Nat.ble pc 66) (cond (Nat.ble pc 55) (cond (Nat.ble pc 50) (cond (Nat.ble pc 47) (cond (Nat.beq pc 45) (.getfield 11, 3, 48, 0, 2, 0) nopI) (cond (Nat.ble pc 49) (cond (Nat.beq pc 48) (.bipush 118, 2, 50, 118, 0, 0) nopI) (cond (Nat.beq pc 50) (.iload_n 1, 1, 51, 0, 1, 0) nopI))) (cond (Nat.ble pc 51) (cond (Nat.beq pc 51) (.iadd, 1, 52, 0, 0, 0) nopI) (cond (Nat.ble pc 54) (cond (Nat.beq pc 52) (.getstatic 15, 3, 55, 0, 3, 0) nopI) (cond (Nat.beq pc 55) (.iload_n 1, 1, 56, 0, 1, 0) nopI)))) (cond (Nat.ble pc 60) (cond (Nat.ble pc 56) (cond (Nat.beq pc 56) (.iaload, 1, 57, 0, 0, 0) nopI) (cond (Nat.ble pc 57) (cond (Nat.beq pc 57) (.iastore, 1, 58, 0, 0, 0) nopI) (cond (Nat.beq pc 58) (.iinc 1 1, 3, 61, 1, 1, 0) nopI))) (cond (Nat.ble pc 64) (cond (Nat.ble pc 63) (cond (Nat.beq pc 61) (.goto (-22), 3, 64, 0, 39, 0) nopI) (cond (Nat.beq pc 64) (.iconst 0, 1, 65, 0, 0, 0) nopI)) (cond (Nat.ble pc 65) (cond (Nat.beq pc 65) (.istore_n 1, 1, 66, 0, 1, 0) nopI) (cond (Nat.beq pc 66) (.iload_n 1, 1, 67, 0, 1, 0) nopI))))) (cond (Nat.ble pc 79) (cond (Nat.ble pc 71) (cond (Nat.ble pc 67) (cond (Nat.beq pc 67) (.iconst 3, 1, 68, 3, 0, 0) nopI) (cond (Nat.ble pc 70) (cond (Nat.beq pc 68) (.if_icmp .ge 24, 3, 71, 0, 92, 0) nopI) (cond (Nat.beq pc 71) (.aload_n 0, 1, 72, 0, 0, 0) nopI))) (cond (Nat.ble pc 77) (cond (Nat.ble pc 74) (cond (Nat.beq pc 72) (.getfield 11, 3, 75, 0, 2, 0) nopI) (cond (Nat.beq pc 75) (.sipush 128, 3, 78, 128, 0, 0) nopI)) (cond (Nat.ble pc 78) (cond (Nat.beq pc 78) (.iload_n 1, 1, 79, 0, 1, 0) nopI) (cond (Nat.beq pc 79) (.iadd, 1, 80, 0, 0, 0) nopI)))) (cond (Nat.ble pc 84) (cond (Nat.ble pc 82) (cond (Nat.beq pc 80) (.getstatic 18, 3, 83, 0, 5, 0) nopI) (cond (Nat.ble pc 83) (cond (Nat.beq pc 83) (.iload_n 1, 1, 84, 0, 1, 0) nopI) (cond (Nat.beq pc 84) (.iaload, 1, 85, 0, 0, 0) nopI))) (cond (Nat.ble pc 88) (cond (Nat.ble pc 85) (cond (Nat.beq pc 85) (.iastore, 1, 86, 0, 0, 0) nopI) (cond (Nat.beq pc 86) (.iinc 1 1, 3, 89, 1, 1, 0) nopI)) (cond (Nat.ble pc 91) (cond (Nat.beq pc 89) (.goto (-23), 3, 92, 0, 66, 0) nopI) (cond (Nat.beq pc 92) (.return_, 1, 93, 0, 0, 0) nopI)))))))
def m_X6_init : MI := (yX6_init, cX6_init, 2, none, (1, 20, 1, 162), 93, k_X6_init)
set_option maxRecDepth 100000 in
theorem ok_X6_init : MOk m_X6_init := MOk.of (by decide +kernel) (fun _ => rfl)
theorem om_X6_init : okM m_X6_init = true := by decide +kernel
def k_X6_waterIn (pc : Nat) : Ins := cond (Nat.ble 37 pc) nopI (cond (Nat.ble pc 18) (cond (Nat.ble pc 6) (cond (Nat.ble pc 2) (cond (Nat.ble pc 0) (cond (Nat.beq pc 0) (.iconst 0, 1, 1, 0, 0, 0) nopI) (cond (Nat.ble pc 1) (cond (Nat.beq pc 1) (.istore_n 2, 1, 2, 0, 2, 0) nopI) (cond (Nat.beq pc 2) (.iconst 0, 1, 3, 0, 0, 0) nopI))) (cond (Nat.ble pc 3) (cond (Nat.beq pc 3) (.istore_n 3, 1, 4, 0, 3, 0) nopI) (cond (Nat.ble pc 4) (cond (Nat.beq pc 4) (.iload_n 3, 1, 5, 0, 3, 0) nopI) (cond (Nat.beq pc 5) (.bipush 8, 2, 7, 8, 0, 0) nopI)))) (cond (Nat.ble pc 11) (cond (Nat.ble pc 9) (cond (Nat.beq pc 7) (.if_icmp .ge 28, 3, 10, 0, 35, 0) nopI) (cond (Nat.ble pc 10) (cond (Nat.beq pc 10) (.iload_n 1, 1, 11, 0, 1, 0) nopI) (cond (Nat.beq pc 11) (.iload_n 3, 1, 12, 0, 3, 0) nopI))) (cond (Nat.ble pc 14) (cond (Nat.beq pc 12) (.invokestatic 27, 3, 15, 0, 0, 0) nopI) (cond (Nat.ble pc 17) (cond (Nat.beq pc 15) (.ifCond .eq 14, 3, 18, 0, 29, 0) nopI) (cond (Nat.beq pc 18) (.iload_n 2, 1, 19, 0, 2, 0) nopI))))) (cond (Nat.ble pc 26) (cond (Nat.ble pc 23) (cond (Nat.ble pc 19) (cond (Nat.beq pc 19) (.aload_n 0, 1, 20, 0, 0, 0) nopI) (cond (Nat.ble pc 22) (cond (Nat.beq pc 20) (.getfield 11, 3, 23, 0, 2, 0) nopI) (cond (Nat.beq pc 23) (.iconst 0, 1, 24, 0, 0, 0) nopI))) (cond (Nat.ble pc 24) (cond (Nat.beq pc 24) (.iload_n 3, 1, 25, 0, 3, 0) nopI) (cond (Nat.ble pc 25) (cond (Nat.beq pc 25) (.iadd, 1, 26, 0, 0, 0) nopI) (cond (Nat.beq pc 26) (.iaload, 1, 27, 0, 0, 0) nopI)))) (cond (Nat.ble pc 31) (cond (Nat.ble pc 27) (cond (Nat.beq pc 27) (.iadd, 1, 28, 0, 0, 0) nopI) (cond (Nat.ble pc 28) (cond (Nat.beq pc 28) (.istore_n 2, 1, 29, 0, 2, 0) nopI) (cond (Nat.beq pc 29) (.iinc 3 1, 3, 32, 1, 3, 0) nopI))) (cond (Nat.ble pc 34) (cond (Nat.beq pc 32) (.goto (-28), 3, 35, 0, 4, 0) nopI) (cond (Nat.ble pc 35) (cond (Nat.beq pc 35) (.iload_n 2, 1, 36, 0, 2, 0) nopI) (cond (Nat.beq pc 36) (.ireturn, 1, 37, 0, 0, 0) nopI))))))
def m_X6_waterIn : MI := (yX6_waterIn, cX6_waterIn, 4, (some .int), (1, 21, 0, 0), 37, k_X6_waterIn)
set_option maxRecDepth 100000 in
theorem ok_X6_waterIn : MOk m_X6_waterIn := MOk.of (by decide +kernel) (fun _ => rfl)
theorem om_X6_waterIn : okM m_X6_waterIn = true := by decide +kernel
def k_X6_lostByLeaks (pc : Nat) : Ins := cond (Nat.ble 30 pc) nopI (cond (Nat.ble pc 14) (cond (Nat.ble pc 4) (cond (Nat.ble pc 1) (cond (Nat.ble pc 0) (cond (Nat.beq pc 0) (.iconst 0, 1, 1, 0, 0, 0) nopI) (cond (Nat.beq pc 1) (.istore_n 1, 1, 2, 0, 1, 0) nopI)) (cond (Nat.ble pc 2) (cond (Nat.beq pc 2) (.iconst 0, 1, 3, 0, 0, 0) nopI) (cond (Nat.ble pc 3) (cond (Nat.beq pc 3) (.istore_n 2, 1, 4, 0, 2, 0) nopI) (cond (Nat.beq pc 4) (.iload_n 2, 1, 5, 0, 2, 0) nopI)))) (cond (Nat.ble pc 9) (cond (Nat.ble pc 6) (cond (Nat.beq pc 5) (.bipush 8, 2, 7, 8, 0, 0) nopI) (cond (Nat.beq pc 7) (.if_icmp .ge 21, 3, 10, 0, 28, 0) nopI)) (cond (Nat.ble pc 10) (cond (Nat.beq pc 10) (.iload_n 1, 1, 11, 0, 1, 0) nopI) (cond (Nat.ble pc 11) (cond (Nat.beq pc 11) (.aload_n 0, 1, 12, 0, 0, 0) nopI) (cond (Nat.beq pc 12) (.getfield 11, 3, 15, 0, 2, 0) nopI))))) (cond (Nat.ble pc 20) (cond (Nat.ble pc 17) (cond (Nat.ble pc 16) (cond (Nat.beq pc 15) (.bipush 16, 2, 17, 16, 0, 0) nopI) (cond (Nat.beq pc 17) (.iload_n 2, 1, 18, 0, 2, 0) nopI)) (cond (Nat.ble pc 18) (cond (Nat.beq pc 18) (.iadd, 1, 19, 0, 0, 0) nopI) (cond (Nat.ble pc 19) (cond (Nat.beq pc 19) (.iaload, 1, 20, 0, 0, 0) nopI) (cond (Nat.beq pc 20) (.iadd, 1, 21, 0, 0, 0) nopI)))) (cond (Nat.ble pc 24) (cond (Nat.ble pc 21) (cond (Nat.beq pc 21) (.istore_n 1, 1, 22, 0, 1, 0) nopI) (cond (Nat.beq pc 22) (.iinc 2 1, 3, 25, 1, 2, 0) nopI)) (cond (Nat.ble pc 27) (cond (Nat.beq pc 25) (.goto (-21), 3, 28, 0, 4, 0) nopI) (cond (Nat.ble pc 28) (cond (Nat.beq pc 28) (.iload_n 1, 1, 29, 0, 1, 0) nopI) (cond (Nat.beq pc 29) (.ireturn, 1, 30, 0, 0, 0) nopI))))))
def m_X6_lostByLeaks : MI := (yX6_lostByLeaks, cX6_lostByLeaks, 3, (some .int), (0, 0, 0, 0), 30, k_X6_lostByLeaks)
set_option maxRecDepth 100000 in
theorem ok_X6_lostByLeaks : MOk m_X6_lostByLeaks := MOk.of (by decide +kernel) (fun _ => rfl)
theorem om_X6_lostByLeaks : okM m_X6_lostByLeaks = true := by decide +kernel
def k_X6_trimMomentAbout (pc : Nat) : Ins := cond (Nat.ble 81 pc) nopI (cond (Nat.ble pc 37) (cond (Nat.ble pc 19) (cond (Nat.ble pc 9) (cond (Nat.ble pc 4) (cond (Nat.ble pc 0) (cond (Nat.beq pc 0) (.iload_n 1, 1, 1, 0, 1, 0) nopI) (cond (Nat.ble pc 1) (cond (Nat.beq pc 1) (.aload_n 0, 1, 2, 0, 0, 0) nopI) (cond (Nat.beq pc 2) (.invokevirtual 31, 3, 5, 0, 0, 0) nopI))) (cond (Nat.ble pc 7) (cond (Nat.beq pc 5) (.sipush 400, 3, 8, 400, 0, 0) nopI) (cond (Nat.ble pc 8) (cond (Nat.beq pc 8) (.isub, 1, 9, 0, 0, 0) nopI) (cond (Nat.beq pc 9) (.imul, 1, 10, 0, 0, 0) nopI)))) (cond (Nat.ble pc 12) (cond (Nat.ble pc 10) (cond (Nat.beq pc 10) (.istore_n 2, 1, 11, 0, 2, 0) nopI) (cond (Nat.ble pc 11) (cond (Nat.beq pc 11) (.iconst 0, 1, 12, 0, 0, 0) nopI) (cond (Nat.beq pc 12) (.istore_n 3, 1, 13, 0, 3, 0) nopI))) (cond (Nat.ble pc 15) (cond (Nat.ble pc 13) (cond (Nat.beq pc 13) (.iload_n 3, 1, 14, 0, 3, 0) nopI) (cond (Nat.beq pc 14) (.bipush 8, 2, 16, 8, 0, 0) nopI)) (cond (Nat.ble pc 18) (cond (Nat.beq pc 16) (.if_icmp .ge 30, 3, 19, 0, 46, 0) nopI) (cond (Nat.beq pc 19) (.iload_n 2, 1, 20, 0, 2, 0) nopI))))) (cond (Nat.ble pc 30) (cond (Nat.ble pc 24) (cond (Nat.ble pc 20) (cond (Nat.beq pc 20) (.aload_n 0, 1, 21, 0, 0, 0) nopI) (cond (Nat.ble pc 23) (cond (Nat.beq pc 21) (.getfield 11, 3, 24, 0, 2, 0) nopI) (cond (Nat.beq pc 24) (.iconst 0, 1, 25, 0, 0, 0) nopI))) (cond (Nat.ble pc 26) (cond (Nat.ble pc 25) (cond (Nat.beq pc 25) (.iload_n 3, 1, 26, 0, 3, 0) nopI) (cond (Nat.beq pc 26) (.iadd, 1, 27, 0, 0, 0) nopI)) (cond (Nat.ble pc 27) (cond (Nat.beq pc 27) (.iaload, 1, 28, 0, 0, 0) nopI) (cond (Nat.beq pc 28) (.getstatic 35, 3, 31, 0, 0, 0) nopI)))) (cond (Nat.ble pc 33) (cond (Nat.ble pc 31) (cond (Nat.beq pc 31) (.iload_n 3, 1, 32, 0, 3, 0) nopI) (cond (Nat.ble pc 32) (cond (Nat.beq pc 32) (.iconst 2, 1, 33, 2, 0, 0) nopI) (cond (Nat.beq pc 33) (.idiv, 1, 34, 0, 0, 0) nopI))) (cond (Nat.ble pc 35) (cond (Nat.ble pc 34) (cond (Nat.beq pc 34) (.iaload, 1, 35, 0, 0, 0) nopI) (cond (Nat.beq pc 35) (.iload_n 1, 1, 36, 0, 1, 0) nopI)) (cond (Nat.ble pc 36) (cond (Nat.beq pc 36) (.isub, 1, 37, 0, 0, 0) nopI) (cond (Nat.beq pc 37) (.imul, 1, 38, 0, 0, 0) nopI)))))) (cond (Nat.ble pc 60) (cond (Nat.ble pc 48) (cond (Nat.ble pc 42) (cond (Nat.ble pc 38) (cond (Nat.beq pc 38) (.iadd, 1, 39, 0, 0, 0) nopI) (cond (Nat.ble pc 39) (cond (Nat.beq pc 39) (.istore_n 2, 1, 40, 0, 2, 0) nopI) (cond (Nat.beq pc 40) (.iinc 3 1, 3, 43, 1, 3, 0) nopI))) (cond (Nat.ble pc 46) (cond (Nat.ble pc 45) (cond (Nat.beq pc 43) (.goto (-30), 3, 46, 0, 13, 0) nopI) (cond (Nat.beq pc 46) (.iconst 0, 1, 47, 0, 0, 0) nopI)) (cond (Nat.ble pc 47) (cond (Nat.beq pc 47) (.istore_n 3, 1, 48, 0, 3, 0) nopI) (cond (Nat.beq pc 48) (.iload_n 3, 1, 49, 0, 3, 0) nopI)))) (cond (Nat.ble pc 53) (cond (Nat.ble pc 49) (cond (Nat.beq pc 49) (.iconst 3, 1, 50, 3, 0, 0) nopI) (cond (Nat.ble pc 52) (cond (Nat.beq pc 50) (.if_icmp .ge 29, 3, 53, 0, 79, 0) nopI) (cond (Nat.beq pc 53) (.iload_n 2, 1, 54, 0, 2, 0) nopI))) (cond (Nat.ble pc 57) (cond (Nat.ble pc 54) (cond (Nat.beq pc 54) (.aload_n 0, 1, 55, 0, 0, 0) nopI) (cond (Nat.beq pc 55) (.getfield 11, 3, 58, 0, 2, 0) nopI)) (cond (Nat.ble pc 59) (cond (Nat.beq pc 58) (.bipush 112, 2, 60, 112, 0, 0) nopI) (cond (Nat.beq pc 60) (.iload_n 3, 1, 61, 0, 3, 0) nopI))))) (cond (Nat.ble pc 69) (cond (Nat.ble pc 65) (cond (Nat.ble pc 61) (cond (Nat.beq pc 61) (.iadd, 1, 62, 0, 0, 0) nopI) (cond (Nat.ble pc 62) (cond (Nat.beq pc 62) (.iaload, 1, 63, 0, 0, 0) nopI) (cond (Nat.beq pc 63) (.getstatic 38, 3, 66, 0, 2, 0) nopI))) (cond (Nat.ble pc 67) (cond (Nat.ble pc 66) (cond (Nat.beq pc 66) (.iload_n 3, 1, 67, 0, 3, 0) nopI) (cond (Nat.beq pc 67) (.iaload, 1, 68, 0, 0, 0) nopI)) (cond (Nat.ble pc 68) (cond (Nat.beq pc 68) (.iload_n 1, 1, 69, 0, 1, 0) nopI) (cond (Nat.beq pc 69) (.isub, 1, 70, 0, 0, 0) nopI)))) (cond (Nat.ble pc 72) (cond (Nat.ble pc 70) (cond (Nat.beq pc 70) (.imul, 1, 71, 0, 0, 0) nopI) (cond (Nat.ble pc 71) (cond (Nat.beq pc 71) (.iadd, 1, 72, 0, 0, 0) nopI) (cond (Nat.beq pc 72) (.istore_n 2, 1, 73, 0, 2, 0) nopI))) (cond (Nat.ble pc 78) (cond (Nat.ble pc 75) (cond (Nat.beq pc 73) (.iinc 3 1, 3, 76, 1, 3, 0) nopI) (cond (Nat.beq pc 76) (.goto (-28), 3, 79, 0, 48, 0) nopI)) (cond (Nat.ble pc 79) (cond (Nat.beq pc 79) (.iload_n 2, 1, 80, 0, 2, 0) nopI) (cond (Nat.beq pc 80) (.ireturn, 1, 81, 0, 0, 0) nopI)))))))
def m_X6_trimMomentAbout : MI := (yX6_trimMomentAbout, cX6_trimMomentAbout, 4, (some .int), (1, 22, 0, 0), 81, k_X6_trimMomentAbout)
set_option maxRecDepth 100000 in
theorem ok_X6_trimMomentAbout : MOk m_X6_trimMomentAbout := MOk.of (by decide +kernel) (fun _ => rfl)
theorem om_X6_trimMomentAbout : okM m_X6_trimMomentAbout = true := by decide +kernel
def k_X6_trim (pc : Nat) : Ins := cond (Nat.ble 9 pc) nopI (cond (Nat.ble pc 4) (cond (Nat.ble pc 0) (cond (Nat.beq pc 0) (.aload_n 0, 1, 1, 0, 0, 0) nopI) (cond (Nat.ble pc 1) (cond (Nat.beq pc 1) (.iconst 0, 1, 2, 0, 0, 0) nopI) (cond (Nat.beq pc 2) (.invokevirtual 41, 3, 5, 0, 0, 0) nopI))) (cond (Nat.ble pc 6) (cond (Nat.beq pc 5) (.bipush 40, 2, 7, 40, 0, 0) nopI) (cond (Nat.ble pc 7) (cond (Nat.beq pc 7) (.idiv, 1, 8, 0, 0, 0) nopI) (cond (Nat.beq pc 8) (.ireturn, 1, 9, 0, 0, 0) nopI))))
def m_X6_trim : MI := (yX6_trim, cX6_trim, 1, (some .int), (2, 45, 0, 0), 9, k_X6_trim)
set_option maxRecDepth 100000 in
theorem ok_X6_trim : MOk m_X6_trim := MOk.of (by decide +kernel) (fun _ => rfl)
theorem om_X6_trim : okM m_X6_trim = true := by decide +kernel
def k_X6_groupsWith (pc : Nat) : Ins := cond (Nat.ble 39 pc) nopI (cond (Nat.ble pc 17) (cond (Nat.ble pc 5) (cond (Nat.ble pc 2) (cond (Nat.ble pc 0) (cond (Nat.beq pc 0) (.iconst 0, 1, 1, 0, 0, 0) nopI) (cond (Nat.ble pc 1) (cond (Nat.beq pc 1) (.istore_n 2, 1, 2, 0, 2, 0) nopI) (cond (Nat.beq pc 2) (.iconst 0, 1, 3, 0, 0, 0) nopI))) (cond (Nat.ble pc 3) (cond (Nat.beq pc 3) (.istore_n 3, 1, 4, 0, 3, 0) nopI) (cond (Nat.ble pc 4) (cond (Nat.beq pc 4) (.iload_n 3, 1, 5, 0, 3, 0) nopI) (cond (Nat.beq pc 5) (.iconst 5, 1, 6, 5, 0, 0) nopI)))) (cond (Nat.ble pc 12) (cond (Nat.ble pc 8) (cond (Nat.beq pc 6) (.if_icmp .ge 31, 3, 9, 0, 37, 0) nopI) (cond (Nat.ble pc 9) (cond (Nat.beq pc 9) (.aload_n 0, 1, 10, 0, 0, 0) nopI) (cond (Nat.beq pc 10) (.getfield 11, 3, 13, 0, 2, 0) nopI))) (cond (Nat.ble pc 15) (cond (Nat.ble pc 14) (cond (Nat.beq pc 13) (.bipush 118, 2, 15, 118, 0, 0) nopI) (cond (Nat.beq pc 15) (.iload_n 3, 1, 16, 0, 3, 0) nopI)) (cond (Nat.ble pc 16) (cond (Nat.beq pc 16) (.iadd, 1, 17, 0, 0, 0) nopI) (cond (Nat.beq pc 17) (.iaload, 1, 18, 0, 0, 0) nopI))))) (cond (Nat.ble pc 27) (cond (Nat.ble pc 24) (cond (Nat.ble pc 18) (cond (Nat.beq pc 18) (.iload_n 1, 1, 19, 0, 1, 0) nopI) (cond (Nat.ble pc 21) (cond (Nat.beq pc 19) (.invokestatic 27, 3, 22, 0, 0, 0) nopI) (cond (Nat.beq pc 22) (.ifCond .eq 9, 3, 25, 0, 31, 0) nopI))) (cond (Nat.ble pc 25) (cond (Nat.beq pc 25) (.iload_n 2, 1, 26, 0, 2, 0) nopI) (cond (Nat.ble pc 26) (cond (Nat.beq pc 26) (.iconst 1, 1, 27, 1, 0, 0) nopI) (cond (Nat.beq pc 27) (.iload_n 3, 1, 28, 0, 3, 0) nopI)))) (cond (Nat.ble pc 30) (cond (Nat.ble pc 28) (cond (Nat.beq pc 28) (.ishl, 1, 29, 0, 0, 0) nopI) (cond (Nat.ble pc 29) (cond (Nat.beq pc 29) (.ior, 1, 30, 0, 0, 0) nopI) (cond (Nat.beq pc 30) (.istore_n 2, 1, 31, 0, 2, 0) nopI))) (cond (Nat.ble pc 36) (cond (Nat.ble pc 33) (cond (Nat.beq pc 31) (.iinc 3 1, 3, 34, 1, 3, 0) nopI) (cond (Nat.beq pc 34) (.goto (-30), 3, 37, 0, 4, 0) nopI)) (cond (Nat.ble pc 37) (cond (Nat.beq pc 37) (.iload_n 2, 1, 38, 0, 2, 0) nopI) (cond (Nat.beq pc 38) (.ireturn, 1, 39, 0, 0, 0) nopI))))))
def m_X6_groupsWith : MI := (yX6_groupsWith, cX6_groupsWith, 4, (some .int), (1, 21, 0, 0), 39, k_X6_groupsWith)
set_option maxRecDepth 100000 in
theorem ok_X6_groupsWith : MOk m_X6_groupsWith := MOk.of (by decide +kernel) (fun _ => rfl)
theorem om_X6_groupsWith : okM m_X6_groupsWith = true := by decide +kernel
def k_X7_takeIfBetter (pc : Nat) : Ins := cond (Nat.ble 30 pc) nopI (cond (Nat.ble pc 15) (cond (Nat.ble pc 7) (cond (Nat.ble pc 3) (cond (Nat.ble pc 0) (cond (Nat.beq pc 0) (.iload_n 3, 1, 1, 0, 3, 0) nopI) (cond (Nat.beq pc 1) (.invokestatic 40, 3, 4, 0, 0, 0) nopI)) (cond (Nat.ble pc 4) (cond (Nat.beq pc 4) (.aload_n 0, 1, 5, 0, 0, 0) nopI) (cond (Nat.beq pc 5) (.getfield 22, 3, 8, 0, 3, 2) nopI))) (cond (Nat.ble pc 13) (cond (Nat.ble pc 10) (cond (Nat.beq pc 8) (.invokestatic 40, 3, 11, 0, 0, 0) nopI) (cond (Nat.beq pc 11) (.if_icmp .ge 18, 3, 14, 0, 29, 0) nopI)) (cond (Nat.ble pc 14) (cond (Nat.beq pc 14) (.aload_n 0, 1, 15, 0, 0, 0) nopI) (cond (Nat.beq pc 15) (.iload_n 1, 1, 16, 0, 1, 0) nopI)))) (cond (Nat.ble pc 23) (cond (Nat.ble pc 19) (cond (Nat.ble pc 18) (cond (Nat.beq pc 16) (.putfield 45, 3, 19, 0, 3, 0) nopI) (cond (Nat.beq pc 19) (.aload_n 0, 1, 20, 0, 0, 0) nopI)) (cond (Nat.ble pc 20) (cond (Nat.beq pc 20) (.iload_n 2, 1, 21, 0, 2, 0) nopI) (cond (Nat.beq pc 21) (.putfield 48, 3, 24, 0, 3, 1) nopI))) (cond (Nat.ble pc 25) (cond (Nat.ble pc 24) (cond (Nat.beq pc 24) (.aload_n 0, 1, 25, 0, 0, 0) nopI) (cond (Nat.beq pc 25) (.iload_n 3, 1, 26, 0, 3, 0) nopI)) (cond (Nat.ble pc 28) (cond (Nat.beq pc 26) (.putfield 22, 3, 29, 0, 3, 2) nopI) (cond (Nat.beq pc 29) (.return_, 1, 30, 0, 0, 0) nopI)))))
def m_X7_takeIfBetter : MI := (yX7_takeIfBetter, cX7_takeIfBetter, 4, none, (1, 21, 0, 0), 30, k_X7_takeIfBetter)
set_option maxRecDepth 100000 in
theorem ok_X7_takeIfBetter : MOk m_X7_takeIfBetter := MOk.of (by decide +kernel) (fun _ => rfl)
theorem om_X7_takeIfBetter : okM m_X7_takeIfBetter = true := by decide +kernel
def k_X7_init (pc : Nat) : Ins := cond (Nat.ble 139 pc) nopI (cond (Nat.ble pc 66) (cond (Nat.ble pc 33) (cond (Nat.ble pc 15) (cond (Nat.ble pc 7) (cond (Nat.ble pc 3) (cond (Nat.ble pc 0) (cond (Nat.beq pc 0) (.aload_n 0, 1, 1, 0, 0, 0) nopI) (cond (Nat.beq pc 1) (.invokespecial 3, 3, 4, 0, 0, 0) nopI)) (cond (Nat.ble pc 4) (cond (Nat.beq pc 4) (.aload_n 1, 1, 5, 0, 1, 0) nopI) (cond (Nat.beq pc 5) (.invokevirtual 9, 3, 8, 0, 0, 0) nopI))) (cond (Nat.ble pc 9) (cond (Nat.ble pc 8) (cond (Nat.beq pc 8) (.istore_n 3, 1, 9, 0, 3, 0) nopI) (cond (Nat.beq pc 9) (.aload_n 1, 1, 10, 0, 1, 0) nopI)) (cond (Nat.ble pc 12) (cond (Nat.beq pc 10) (.invokevirtual 15, 3, 13, 0, 0, 0) nopI) (cond (Nat.ble pc 14) (cond (Nat.beq pc 13) (.istore 4, 2, 15, 0, 4, 0) nopI) (cond (Nat.beq pc 15) (.aload_n 0, 1, 16, 0, 0, 0) nopI))))) (cond (Nat.ble pc 24) (cond (Nat.ble pc 18) (cond (Nat.ble pc 16) (cond (Nat.beq pc 16) (.iload_n 3, 1, 17, 0, 3, 0) nopI) (cond (Nat.beq pc 17) (.iload 4, 2, 19, 0, 4, 0) nopI)) (cond (Nat.ble pc 21) (cond (Nat.beq pc 19) (.invokestatic 18, 3, 22, 0, 0, 0) nopI) (cond (Nat.beq pc 22) (.putfield 22, 3, 25, 0, 3, 2) nopI))) (cond (Nat.ble pc 27) (cond (Nat.ble pc 25) (cond (Nat.beq pc 25) (.iconst 1, 1, 26, 1, 0, 0) nopI) (cond (Nat.beq pc 26) (.istore 5, 2, 28, 0, 5, 0) nopI)) (cond (Nat.ble pc 29) (cond (Nat.beq pc 28) (.iload 5, 2, 30, 0, 5, 0) nopI) (cond (Nat.ble pc 30) (cond (Nat.beq pc 30) (.iload_n 2, 1, 31, 0, 2, 0) nopI) (cond (Nat.beq pc 31) (.if_icmp .gt 107, 3, 34, 0, 138, 0) nopI)))))) (cond (Nat.ble pc 48) (cond (Nat.ble pc 40) (cond (Nat.ble pc 36) (cond (Nat.ble pc 34) (cond (Nat.beq pc 34) (.iconst 0, 1, 35, 0, 0, 0) nopI) (cond (Nat.beq pc 35) (.istore 6, 2, 37, 0, 6, 0) nopI)) (cond (Nat.ble pc 38) (cond (Nat.beq pc 37) (.iload 6, 2, 39, 0, 6, 0) nopI) (cond (Nat.beq pc 39) (.bipush 8, 2, 41, 8, 0, 0) nopI))) (cond (Nat.ble pc 44) (cond (Nat.ble pc 43) (cond (Nat.beq pc 41) (.if_icmp .ge 91, 3, 44, 0, 132, 0) nopI) (cond (Nat.beq pc 44) (.aload_n 1, 1, 45, 0, 1, 0) nopI)) (cond (Nat.ble pc 45) (cond (Nat.beq pc 45) (.iconst 0, 1, 46, 0, 0, 0) nopI) (cond (Nat.ble pc 47) (cond (Nat.beq pc 46) (.iload 6, 2, 48, 0, 6, 0) nopI) (cond (Nat.beq pc 48) (.iadd, 1, 49, 0, 0, 0) nopI))))) (cond (Nat.ble pc 60) (cond (Nat.ble pc 53) (cond (Nat.ble pc 51) (cond (Nat.beq pc 49) (.invokevirtual 28, 3, 52, 0, 0, 0) nopI) (cond (Nat.beq pc 52) (.istore 7, 2, 54, 0, 7, 0) nopI)) (cond (Nat.ble pc 55) (cond (Nat.beq pc 54) (.iload 5, 2, 56, 0, 5, 0) nopI) (cond (Nat.ble pc 58) (cond (Nat.beq pc 56) (.getstatic 32, 3, 59, 0, 1, 0) nopI) (cond (Nat.beq pc 59) (.iload 6, 2, 61, 0, 6, 0) nopI)))) (cond (Nat.ble pc 62) (cond (Nat.ble pc 61) (cond (Nat.beq pc 61) (.iconst 2, 1, 62, 2, 0, 0) nopI) (cond (Nat.beq pc 62) (.irem, 1, 63, 0, 0, 0) nopI)) (cond (Nat.ble pc 63) (cond (Nat.beq pc 63) (.iaload, 1, 64, 0, 0, 0) nopI) (cond (Nat.ble pc 64) (cond (Nat.beq pc 64) (.imul, 1, 65, 0, 0, 0) nopI) (cond (Nat.beq pc 65) (.istore 8, 2, 67, 0, 8, 0) nopI))))))) (cond (Nat.ble pc 100) (cond (Nat.ble pc 82) (cond (Nat.ble pc 73) (cond (Nat.ble pc 70) (cond (Nat.ble pc 68) (cond (Nat.beq pc 67) (.iload 7, 2, 69, 0, 7, 0) nopI) (cond (Nat.beq pc 69) (.iload 5, 2, 71, 0, 5, 0) nopI)) (cond (Nat.ble pc 71) (cond (Nat.beq pc 71) (.iadd, 1, 72, 0, 0, 0) nopI) (cond (Nat.beq pc 72) (.bipush 100, 2, 74, 100, 0, 0) nopI))) (cond (Nat.ble pc 77) (cond (Nat.ble pc 76) (cond (Nat.beq pc 74) (.if_icmp .gt 23, 3, 77, 0, 97, 0) nopI) (cond (Nat.beq pc 77) (.aload_n 0, 1, 78, 0, 0, 0) nopI)) (cond (Nat.ble pc 79) (cond (Nat.beq pc 78) (.iload 6, 2, 80, 0, 6, 0) nopI) (cond (Nat.ble pc 81) (cond (Nat.beq pc 80) (.iload 5, 2, 82, 0, 5, 0) nopI) (cond (Nat.beq pc 82) (.iload_n 3, 1, 83, 0, 3, 0) nopI))))) (cond (Nat.ble pc 89) (cond (Nat.ble pc 85) (cond (Nat.ble pc 84) (cond (Nat.beq pc 83) (.iload 8, 2, 85, 0, 8, 0) nopI) (cond (Nat.beq pc 85) (.iadd, 1, 86, 0, 0, 0) nopI)) (cond (Nat.ble pc 87) (cond (Nat.beq pc 86) (.iload 4, 2, 88, 0, 4, 0) nopI) (cond (Nat.beq pc 88) (.iload 5, 2, 90, 0, 5, 0) nopI))) (cond (Nat.ble pc 93) (cond (Nat.ble pc 90) (cond (Nat.beq pc 90) (.iadd, 1, 91, 0, 0, 0) nopI) (cond (Nat.beq pc 91) (.invokestatic 18, 3, 94, 0, 0, 0) nopI)) (cond (Nat.ble pc 96) (cond (Nat.beq pc 94) (.invokevirtual 36, 3, 97, 0, 0, 0) nopI) (cond (Nat.ble pc 98) (cond (Nat.beq pc 97) (.iload 7, 2, 99, 0, 7, 0) nopI) (cond (Nat.beq pc 99) (.iload 5, 2, 101, 0, 5, 0) nopI)))))) (cond (Nat.ble pc 114) (cond (Nat.ble pc 107) (cond (Nat.ble pc 104) (cond (Nat.ble pc 101) (cond (Nat.beq pc 101) (.isub, 1, 102, 0, 0, 0) nopI) (cond (Nat.beq pc 102) (.ifCond .lt 24, 3, 105, 0, 126, 0) nopI)) (cond (Nat.ble pc 105) (cond (Nat.beq pc 105) (.aload_n 0, 1, 106, 0, 0, 0) nopI) (cond (Nat.beq pc 106) (.iload 6, 2, 108, 0, 6, 0) nopI))) (cond (Nat.ble pc 110) (cond (Nat.ble pc 109) (cond (Nat.beq pc 108) (.iload 5, 2, 110, 0, 5, 0) nopI) (cond (Nat.beq pc 110) (.ineg, 1, 111, 0, 0, 0) nopI)) (cond (Nat.ble pc 111) (cond (Nat.beq pc 111) (.iload_n 3, 1, 112, 0, 3, 0) nopI) (cond (Nat.ble pc 113) (cond (Nat.beq pc 112) (.iload 8, 2, 114, 0, 8, 0) nopI) (cond (Nat.beq pc 114) (.isub, 1, 115, 0, 0, 0) nopI))))) (cond (Nat.ble pc 125) (cond (Nat.ble pc 118) (cond (Nat.ble pc 116) (cond (Nat.beq pc 115) (.iload 4, 2, 117, 0, 4, 0) nopI) (cond (Nat.beq pc 117) (.iload 5, 2, 119, 0, 5, 0) nopI)) (cond (Nat.ble pc 119) (cond (Nat.beq pc 119) (.isub, 1, 120, 0, 0, 0) nopI) (cond (Nat.ble pc 122) (cond (Nat.beq pc 120) (.invokestatic 18, 3, 123, 0, 0, 0) nopI) (cond (Nat.beq pc 123) (.invokevirtual 36, 3, 126, 0, 0, 0) nopI)))) (cond (Nat.ble pc 131) (cond (Nat.ble pc 128) (cond (Nat.beq pc 126) (.iinc 6 1, 3, 129, 1, 6, 0) nopI) (cond (Nat.beq pc 129) (.goto (-92), 3, 132, 0, 37, 0) nopI)) (cond (Nat.ble pc 134) (cond (Nat.beq pc 132) (.iinc 5 1, 3, 135, 1, 5, 0) nopI) (cond (Nat.ble pc 137) (cond (Nat.beq pc 135) (.goto (-107), 3, 138, 0, 28, 0) nopI) (cond (Nat.beq pc 138) (.return_, 1, 139, 0, 0, 0) nopI))))))))
def m_X7_init : MI := (yX7_init, cX7_init, 9, none, (2, 44, 0, 0), 139, k_X7_init)
set_option maxRecDepth 100000 in
theorem ok_X7_init : MOk m_X7_init := MOk.of (by decide +kernel) (fun _ => rfl)
theorem om_X7_init : okM m_X7_init = true := by decide +kernel
def k_X8_init (pc : Nat) : Ins := cond (Nat.ble 47 pc) nopI (cond (Nat.ble pc 22) (cond (Nat.ble pc 8) (cond (Nat.ble pc 3) (cond (Nat.ble pc 0) (cond (Nat.beq pc 0) (.aload_n 0, 1, 1, 0, 0, 0) nopI) (cond (Nat.beq pc 1) (.invokespecial 1, 3, 4, 0, 0, 0) nopI)) (cond (Nat.ble pc 4) (cond (Nat.beq pc 4) (.aload_n 0, 1, 5, 0, 0, 0) nopI) (cond (Nat.ble pc 7) (cond (Nat.beq pc 5) (.new 7, 3, 8, 0, 2, 0) nopI) (cond (Nat.beq pc 8) (.dup, 1, 9, 0, 0, 0) nopI)))) (cond (Nat.ble pc 15) (cond (Nat.ble pc 11) (cond (Nat.beq pc 9) (.invokespecial 9, 3, 12, 0, 0, 0) nopI) (cond (Nat.ble pc 14) (cond (Nat.beq pc 12) (.putfield 10, 3, 15, 0, 4, 0) nopI) (cond (Nat.beq pc 15) (.aload_n 0, 1, 16, 0, 0, 0) nopI))) (cond (Nat.ble pc 18) (cond (Nat.beq pc 16) (.new 16, 3, 19, 0, 0, 0) nopI) (cond (Nat.ble pc 19) (cond (Nat.beq pc 19) (.dup, 1, 20, 0, 0, 0) nopI) (cond (Nat.beq pc 20) (.invokespecial 18, 3, 23, 0, 0, 0) nopI))))) (cond (Nat.ble pc 34) (cond (Nat.ble pc 26) (cond (Nat.ble pc 25) (cond (Nat.beq pc 23) (.putfield 19, 3, 26, 0, 4, 1) nopI) (cond (Nat.beq pc 26) (.aload_n 0, 1, 27, 0, 0, 0) nopI)) (cond (Nat.ble pc 29) (cond (Nat.beq pc 27) (.sipush 162, 3, 30, 162, 0, 0) nopI) (cond (Nat.ble pc 31) (cond (Nat.beq pc 30) (.newarray .int, 2, 32, 0, 0, 0) nopI) (cond (Nat.beq pc 32) (.putfield 23, 3, 35, 0, 4, 2) nopI)))) (cond (Nat.ble pc 39) (cond (Nat.ble pc 35) (cond (Nat.beq pc 35) (.aload_n 0, 1, 36, 0, 0, 0) nopI) (cond (Nat.ble pc 38) (cond (Nat.beq pc 36) (.new 27, 3, 39, 0, 1, 0) nopI) (cond (Nat.beq pc 39) (.dup, 1, 40, 0, 0, 0) nopI))) (cond (Nat.ble pc 42) (cond (Nat.beq pc 40) (.invokespecial 29, 3, 43, 0, 0, 0) nopI) (cond (Nat.ble pc 45) (cond (Nat.beq pc 43) (.putfield 30, 3, 46, 0, 4, 4) nopI) (cond (Nat.beq pc 46) (.return_, 1, 47, 0, 0, 0) nopI))))))
def m_X8_init : MI := (yX8_init, cX8_init, 1, none, (2, 41, 13, 1166), 47, k_X8_init)
set_option maxRecDepth 100000 in
theorem ok_X8_init : MOk m_X8_init := MOk.of (by decide +kernel) (fun _ => rfl)
theorem om_X8_init : okM m_X8_init = true := by decide +kernel
def k_X8_isWithin (pc : Nat) : Ins := cond (Nat.ble 16 pc) nopI (cond (Nat.ble pc 6) (cond (Nat.ble pc 1) (cond (Nat.ble pc 0) (cond (Nat.beq pc 0) (.iload_n 0, 1, 1, 0, 0, 0) nopI) (cond (Nat.beq pc 1) (.iload_n 1, 1, 2, 0, 1, 0) nopI)) (cond (Nat.ble pc 4) (cond (Nat.beq pc 2) (.if_icmp .lt 12, 3, 5, 0, 14, 0) nopI) (cond (Nat.ble pc 5) (cond (Nat.beq pc 5) (.iload_n 0, 1, 6, 0, 0, 0) nopI) (cond (Nat.beq pc 6) (.iload_n 2, 1, 7, 0, 2, 0) nopI)))) (cond (Nat.ble pc 10) (cond (Nat.ble pc 9) (cond (Nat.beq pc 7) (.if_icmp .gt 7, 3, 10, 0, 14, 0) nopI) (cond (Nat.beq pc 10) (.iconst 1, 1, 11, 1, 0, 0) nopI)) (cond (Nat.ble pc 13) (cond (Nat.beq pc 11) (.goto 4, 3, 14, 0, 15, 0) nopI) (cond (Nat.ble pc 14) (cond (Nat.beq pc 14) (.iconst 0, 1, 15, 0, 0, 0) nopI) (cond (Nat.beq pc 15) (.ireturn, 1, 16, 0, 0, 0) nopI)))))
def m_X8_isWithin : MI := (yX8_isWithin, cX8_isWithin, 3, (some .boolean), (0, 0, 0, 0), 16, k_X8_isWithin)
set_option maxRecDepth 100000 in
theorem ok_X8_isWithin : MOk m_X8_isWithin := MOk.of (by decide +kernel) (fun _ => rfl)
theorem om_X8_isWithin : okM m_X8_isWithin = true := by decide +kernel
def k_X8_load (pc : Nat) : Ins := cond (Nat.ble 150 pc) nopI (cond (Nat.ble pc 73) (cond (Nat.ble pc 37) (cond (Nat.ble pc 14) (cond (Nat.ble pc 5) (cond (Nat.ble pc 1) (cond (Nat.ble pc 0) (cond (Nat.beq pc 0) (.iload_n 1, 1, 1, 0, 1, 0) nopI) (cond (Nat.beq pc 1) (.iconst 0, 1, 2, 0, 0, 0) nopI)) (cond (Nat.ble pc 2) (cond (Nat.beq pc 2) (.iconst 2, 1, 3, 2, 0, 0) nopI) (cond (Nat.beq pc 3) (.invokestatic 34, 3, 6, 0, 0, 0) nopI))) (cond (Nat.ble pc 11) (cond (Nat.ble pc 8) (cond (Nat.beq pc 6) (.ifCond .ne 7, 3, 9, 0, 13, 0) nopI) (cond (Nat.beq pc 9) (.sipush (-1001), 3, 12, -1001, 0, 0) nopI)) (cond (Nat.ble pc 12) (cond (Nat.beq pc 12) (.ireturn, 1, 13, 0, 0, 0) nopI) (cond (Nat.ble pc 13) (cond (Nat.beq pc 13) (.iload_n 2, 1, 14, 0, 2, 0) nopI) (cond (Nat.beq pc 14) (.iconst 0, 1, 15, 0, 0, 0) nopI))))) (cond (Nat.ble pc 26) (cond (Nat.ble pc 20) (cond (Nat.ble pc 17) (cond (Nat.beq pc 15) (.sipush 300, 3, 18, 300, 0, 0) nopI) (cond (Nat.beq pc 18) (.invokestatic 34, 3, 21, 0, 0, 0) nopI)) (cond (Nat.ble pc 23) (cond (Nat.beq pc 21) (.ifCond .eq 13, 3, 24, 0, 34, 0) nopI) (cond (Nat.ble pc 24) (cond (Nat.beq pc 24) (.iload_n 3, 1, 25, 0, 3, 0) nopI) (cond (Nat.beq pc 25) (.bipush (-3), 2, 27, -3, 0, 0) nopI)))) (cond (Nat.ble pc 30) (cond (Nat.ble pc 27) (cond (Nat.beq pc 27) (.iconst 3, 1, 28, 3, 0, 0) nopI) (cond (Nat.beq pc 28) (.invokestatic 34, 3, 31, 0, 0, 0) nopI)) (cond (Nat.ble pc 33) (cond (Nat.beq pc 31) (.ifCond .ne 7, 3, 34, 0, 38, 0) nopI) (cond (Nat.ble pc 36) (cond (Nat.beq pc 34) (.sipush (-1002), 3, 37, -1002, 0, 0) nopI) (cond (Nat.beq pc 37) (.ireturn, 1, 38, 0, 0, 0) nopI)))))) (cond (Nat.ble pc 54) (cond (Nat.ble pc 44) (cond (Nat.ble pc 41) (cond (Nat.ble pc 38) (cond (Nat.beq pc 38) (.aload_n 0, 1, 39, 0, 0, 0) nopI) (cond (Nat.beq pc 39) (.getfield 10, 3, 42, 0, 4, 0) nopI)) (cond (Nat.ble pc 43) (cond (Nat.beq pc 42) (.bipush 112, 2, 44, 112, 0, 0) nopI) (cond (Nat.beq pc 44) (.iload_n 1, 1, 45, 0, 1, 0) nopI))) (cond (Nat.ble pc 48) (cond (Nat.ble pc 45) (cond (Nat.beq pc 45) (.iadd, 1, 46, 0, 0, 0) nopI) (cond (Nat.beq pc 46) (.invokevirtual 38, 3, 49, 0, 0, 0) nopI)) (cond (Nat.ble pc 50) (cond (Nat.beq pc 49) (.istore 4, 2, 51, 0, 4, 0) nopI) (cond (Nat.ble pc 51) (cond (Nat.beq pc 51) (.aload_n 0, 1, 52, 0, 0, 0) nopI) (cond (Nat.beq pc 52) (.getfield 10, 3, 55, 0, 4, 0) nopI))))) (cond (Nat.ble pc 62) (cond (Nat.ble pc 59) (cond (Nat.ble pc 57) (cond (Nat.beq pc 55) (.invokevirtual 42, 3, 58, 0, 0, 0) nopI) (cond (Nat.beq pc 58) (.iload 4, 2, 60, 0, 4, 0) nopI)) (cond (Nat.ble pc 60) (cond (Nat.beq pc 60) (.isub, 1, 61, 0, 0, 0) nopI) (cond (Nat.ble pc 61) (cond (Nat.beq pc 61) (.iload_n 2, 1, 62, 0, 2, 0) nopI) (cond (Nat.beq pc 62) (.iadd, 1, 63, 0, 0, 0) nopI)))) (cond (Nat.ble pc 67) (cond (Nat.ble pc 65) (cond (Nat.beq pc 63) (.invokestatic 46, 3, 66, 0, 0, 0) nopI) (cond (Nat.beq pc 66) (.istore 5, 2, 68, 0, 5, 0) nopI)) (cond (Nat.ble pc 69) (cond (Nat.beq pc 68) (.iload 5, 2, 70, 0, 5, 0) nopI) (cond (Nat.ble pc 70) (cond (Nat.beq pc 70) (.aload_n 0, 1, 71, 0, 0, 0) nopI) (cond (Nat.beq pc 71) (.getfield 10, 3, 74, 0, 4, 0) nopI))))))) (cond (Nat.ble pc 112) (cond (Nat.ble pc 93) (cond (Nat.ble pc 85) (cond (Nat.ble pc 79) (cond (Nat.ble pc 76) (cond (Nat.beq pc 74) (.sipush 130, 3, 77, 130, 0, 0) nopI) (cond (Nat.beq pc 77) (.invokevirtual 38, 3, 80, 0, 0, 0) nopI)) (cond (Nat.ble pc 82) (cond (Nat.beq pc 80) (.if_icmp .le 7, 3, 83, 0, 87, 0) nopI) (cond (Nat.beq pc 83) (.sipush (-1004), 3, 86, -1004, 0, 0) nopI))) (cond (Nat.ble pc 88) (cond (Nat.ble pc 86) (cond (Nat.beq pc 86) (.ireturn, 1, 87, 0, 0, 0) nopI) (cond (Nat.beq pc 87) (.iload 4, 2, 89, 0, 4, 0) nopI)) (cond (Nat.ble pc 89) (cond (Nat.beq pc 89) (.iload_n 2, 1, 90, 0, 2, 0) nopI) (cond (Nat.ble pc 92) (cond (Nat.beq pc 90) (.if_icmp .ne 22, 3, 93, 0, 112, 0) nopI) (cond (Nat.beq pc 93) (.aload_n 0, 1, 94, 0, 0, 0) nopI))))) (cond (Nat.ble pc 103) (cond (Nat.ble pc 98) (cond (Nat.ble pc 96) (cond (Nat.beq pc 94) (.getfield 10, 3, 97, 0, 4, 0) nopI) (cond (Nat.beq pc 97) (.bipush 115, 2, 99, 115, 0, 0) nopI)) (cond (Nat.ble pc 99) (cond (Nat.beq pc 99) (.iload_n 1, 1, 100, 0, 1, 0) nopI) (cond (Nat.ble pc 100) (cond (Nat.beq pc 100) (.iadd, 1, 101, 0, 0, 0) nopI) (cond (Nat.beq pc 101) (.invokevirtual 38, 3, 104, 0, 0, 0) nopI)))) (cond (Nat.ble pc 107) (cond (Nat.ble pc 104) (cond (Nat.beq pc 104) (.iload_n 3, 1, 105, 0, 3, 0) nopI) (cond (Nat.beq pc 105) (.if_icmp .ne 7, 3, 108, 0, 112, 0) nopI)) (cond (Nat.ble pc 110) (cond (Nat.beq pc 108) (.sipush (-1005), 3, 111, -1005, 0, 0) nopI) (cond (Nat.ble pc 111) (cond (Nat.beq pc 111) (.ireturn, 1, 112, 0, 0, 0) nopI) (cond (Nat.beq pc 112) (.aload_n 0, 1, 113, 0, 0, 0) nopI)))))) (cond (Nat.ble pc 131) (cond (Nat.ble pc 123) (cond (Nat.ble pc 116) (cond (Nat.ble pc 115) (cond (Nat.beq pc 113) (.getfield 19, 3, 116, 0, 4, 1) nopI) (cond (Nat.beq pc 116) (.aload_n 0, 1, 117, 0, 0, 0) nopI)) (cond (Nat.ble pc 119) (cond (Nat.beq pc 117) (.getfield 10, 3, 120, 0, 4, 0) nopI) (cond (Nat.ble pc 122) (cond (Nat.beq pc 120) (.invokevirtual 49, 3, 123, 0, 0, 0) nopI) (cond (Nat.beq pc 123) (.aload_n 0, 1, 124, 0, 0, 0) nopI)))) (cond (Nat.ble pc 128) (cond (Nat.ble pc 126) (cond (Nat.beq pc 124) (.getfield 10, 3, 127, 0, 4, 0) nopI) (cond (Nat.beq pc 127) (.bipush 112, 2, 129, 112, 0, 0) nopI)) (cond (Nat.ble pc 129) (cond (Nat.beq pc 129) (.iload_n 1, 1, 130, 0, 1, 0) nopI) (cond (Nat.ble pc 130) (cond (Nat.beq pc 130) (.iadd, 1, 131, 0, 0, 0) nopI) (cond (Nat.beq pc 131) (.iload_n 2, 1, 132, 0, 2, 0) nopI))))) (cond (Nat.ble pc 141) (cond (Nat.ble pc 135) (cond (Nat.ble pc 134) (cond (Nat.beq pc 132) (.invokevirtual 53, 3, 135, 0, 0, 0) nopI) (cond (Nat.beq pc 135) (.aload_n 0, 1, 136, 0, 0, 0) nopI)) (cond (Nat.ble pc 138) (cond (Nat.beq pc 136) (.getfield 10, 3, 139, 0, 4, 0) nopI) (cond (Nat.ble pc 140) (cond (Nat.beq pc 139) (.bipush 115, 2, 141, 115, 0, 0) nopI) (cond (Nat.beq pc 141) (.iload_n 1, 1, 142, 0, 1, 0) nopI)))) (cond (Nat.ble pc 143) (cond (Nat.ble pc 142) (cond (Nat.beq pc 142) (.iadd, 1, 143, 0, 0, 0) nopI) (cond (Nat.beq pc 143) (.iload_n 3, 1, 144, 0, 3, 0) nopI)) (cond (Nat.ble pc 146) (cond (Nat.beq pc 144) (.invokevirtual 53, 3, 147, 0, 0, 0) nopI) (cond (Nat.ble pc 148) (cond (Nat.beq pc 147) (.iload 5, 2, 149, 0, 5, 0) nopI) (cond (Nat.beq pc 149) (.ireturn, 1, 150, 0, 0, 0) nopI))))))))
def m_X8_load : MI := (yX8_load, cX8_load, 6, (some .int), (3, 68, 0, 0), 150, k_X8_load)
set_option maxRecDepth 100000 in
theorem ok_X8_load : MOk m_X8_load := MOk.of (by decide +kernel) (fun _ => rfl)
theorem om_X8_load : okM m_X8_load = true := by decide +kernel
def k_X8_change (pc : Nat) : Ins := cond (Nat.ble 40 pc) nopI (cond (Nat.ble pc 18) (cond (Nat.ble pc 8) (cond (Nat.ble pc 3) (cond (Nat.ble pc 0) (cond (Nat.beq pc 0) (.aload_n 0, 1, 1, 0, 0, 0) nopI) (cond (Nat.beq pc 1) (.getfield 10, 3, 4, 0, 4, 0) nopI)) (cond (Nat.ble pc 4) (cond (Nat.beq pc 4) (.iload_n 1, 1, 5, 0, 1, 0) nopI) (cond (Nat.ble pc 7) (cond (Nat.beq pc 5) (.invokevirtual 38, 3, 8, 0, 0, 0) nopI) (cond (Nat.beq pc 8) (.istore_n 3, 1, 9, 0, 3, 0) nopI)))) (cond (Nat.ble pc 13) (cond (Nat.ble pc 9) (cond (Nat.beq pc 9) (.iload_n 3, 1, 10, 0, 3, 0) nopI) (cond (Nat.ble pc 10) (cond (Nat.beq pc 10) (.iload_n 2, 1, 11, 0, 2, 0) nopI) (cond (Nat.beq pc 11) (.if_icmp .ne 7, 3, 14, 0, 18, 0) nopI))) (cond (Nat.ble pc 16) (cond (Nat.beq pc 14) (.sipush (-1005), 3, 17, -1005, 0, 0) nopI) (cond (Nat.ble pc 17) (cond (Nat.beq pc 17) (.ireturn, 1, 18, 0, 0, 0) nopI) (cond (Nat.beq pc 18) (.aload_n 0, 1, 19, 0, 0, 0) nopI))))) (cond (Nat.ble pc 29) (cond (Nat.ble pc 22) (cond (Nat.ble pc 21) (cond (Nat.beq pc 19) (.getfield 19, 3, 22, 0, 4, 1) nopI) (cond (Nat.beq pc 22) (.aload_n 0, 1, 23, 0, 0, 0) nopI)) (cond (Nat.ble pc 25) (cond (Nat.beq pc 23) (.getfield 10, 3, 26, 0, 4, 0) nopI) (cond (Nat.ble pc 28) (cond (Nat.beq pc 26) (.invokevirtual 49, 3, 29, 0, 0, 0) nopI) (cond (Nat.beq pc 29) (.aload_n 0, 1, 30, 0, 0, 0) nopI)))) (cond (Nat.ble pc 34) (cond (Nat.ble pc 32) (cond (Nat.beq pc 30) (.getfield 10, 3, 33, 0, 4, 0) nopI) (cond (Nat.ble pc 33) (cond (Nat.beq pc 33) (.iload_n 1, 1, 34, 0, 1, 0) nopI) (cond (Nat.beq pc 34) (.iload_n 2, 1, 35, 0, 2, 0) nopI))) (cond (Nat.ble pc 37) (cond (Nat.beq pc 35) (.invokevirtual 53, 3, 38, 0, 0, 0) nopI) (cond (Nat.ble pc 38) (cond (Nat.beq pc 38) (.iload_n 3, 1, 39, 0, 3, 0) nopI) (cond (Nat.beq pc 39) (.ireturn, 1, 40, 0, 0, 0) nopI))))))
def m_X8_change : MI := (yX8_change, cX8_change, 4, (some .int), (3, 68, 0, 0), 40, k_X8_change)
set_option maxRecDepth 100000 in
theorem ok_X8_change : MOk m_X8_change := MOk.of (by decide +kernel) (fun _ => rfl)
theorem om_X8_change : okM m_X8_change = true := by decide +kernel
def k_X8_leak (pc : Nat) : Ins := cond (Nat.ble 38 pc) nopI (cond (Nat.ble pc 17) (cond (Nat.ble pc 9) (cond (Nat.ble pc 1) (cond (Nat.ble pc 0) (cond (Nat.beq pc 0) (.iload_n 1, 1, 1, 0, 1, 0) nopI) (cond (Nat.beq pc 1) (.iconst 0, 1, 2, 0, 0, 0) nopI)) (cond (Nat.ble pc 3) (cond (Nat.beq pc 2) (.bipush 7, 2, 4, 7, 0, 0) nopI) (cond (Nat.ble pc 6) (cond (Nat.beq pc 4) (.invokestatic 34, 3, 7, 0, 0, 0) nopI) (cond (Nat.beq pc 7) (.ifCond .ne 7, 3, 10, 0, 14, 0) nopI)))) (cond (Nat.ble pc 13) (cond (Nat.ble pc 12) (cond (Nat.beq pc 10) (.sipush (-1001), 3, 13, -1001, 0, 0) nopI) (cond (Nat.beq pc 13) (.ireturn, 1, 14, 0, 0, 0) nopI)) (cond (Nat.ble pc 14) (cond (Nat.beq pc 14) (.iload_n 2, 1, 15, 0, 2, 0) nopI) (cond (Nat.ble pc 15) (cond (Nat.beq pc 15) (.iconst 0, 1, 16, 0, 0, 0) nopI) (cond (Nat.beq pc 16) (.bipush 9, 2, 18, 9, 0, 0) nopI))))) (cond (Nat.ble pc 28) (cond (Nat.ble pc 23) (cond (Nat.ble pc 20) (cond (Nat.beq pc 18) (.invokestatic 34, 3, 21, 0, 0, 0) nopI) (cond (Nat.beq pc 21) (.ifCond .ne 7, 3, 24, 0, 28, 0) nopI)) (cond (Nat.ble pc 26) (cond (Nat.beq pc 24) (.sipush (-1002), 3, 27, -1002, 0, 0) nopI) (cond (Nat.ble pc 27) (cond (Nat.beq pc 27) (.ireturn, 1, 28, 0, 0, 0) nopI) (cond (Nat.beq pc 28) (.aload_n 0, 1, 29, 0, 0, 0) nopI)))) (cond (Nat.ble pc 32) (cond (Nat.ble pc 30) (cond (Nat.beq pc 29) (.bipush 8, 2, 31, 8, 0, 0) nopI) (cond (Nat.ble pc 31) (cond (Nat.beq pc 31) (.iload_n 1, 1, 32, 0, 1, 0) nopI) (cond (Nat.beq pc 32) (.iadd, 1, 33, 0, 0, 0) nopI))) (cond (Nat.ble pc 33) (cond (Nat.beq pc 33) (.iload_n 2, 1, 34, 0, 2, 0) nopI) (cond (Nat.ble pc 36) (cond (Nat.beq pc 34) (.invokevirtual 57, 3, 37, 0, 0, 0) nopI) (cond (Nat.beq pc 37) (.ireturn, 1, 38, 0, 0, 0) nopI))))))
def m_X8_leak : MI := (yX8_leak, cX8_leak, 3, (some .int), (4, 91, 0, 0), 38, k_X8_leak)
set_option maxRecDepth 100000 in
theorem ok_X8_leak : MOk m_X8_leak := MOk.of (by decide +kernel) (fun _ => rfl)
theorem om_X8_leak : okM m_X8_leak = true := by decide +kernel
def k_X8_setGroup (pc : Nat) : Ins := cond (Nat.ble 38 pc) nopI (cond (Nat.ble pc 17) (cond (Nat.ble pc 8) (cond (Nat.ble pc 1) (cond (Nat.ble pc 0) (cond (Nat.beq pc 0) (.iload_n 1, 1, 1, 0, 1, 0) nopI) (cond (Nat.beq pc 1) (.iconst 0, 1, 2, 0, 0, 0) nopI)) (cond (Nat.ble pc 2) (cond (Nat.beq pc 2) (.iconst 4, 1, 3, 4, 0, 0) nopI) (cond (Nat.ble pc 5) (cond (Nat.beq pc 3) (.invokestatic 34, 3, 6, 0, 0, 0) nopI) (cond (Nat.beq pc 6) (.ifCond .ne 7, 3, 9, 0, 13, 0) nopI)))) (cond (Nat.ble pc 12) (cond (Nat.ble pc 11) (cond (Nat.beq pc 9) (.sipush (-1001), 3, 12, -1001, 0, 0) nopI) (cond (Nat.beq pc 12) (.ireturn, 1, 13, 0, 0, 0) nopI)) (cond (Nat.ble pc 13) (cond (Nat.beq pc 13) (.iload_n 2, 1, 14, 0, 2, 0) nopI) (cond (Nat.ble pc 14) (cond (Nat.beq pc 14) (.iconst 1, 1, 15, 1, 0, 0) nopI) (cond (Nat.beq pc 15) (.sipush 255, 3, 18, 255, 0, 0) nopI))))) (cond (Nat.ble pc 28) (cond (Nat.ble pc 23) (cond (Nat.ble pc 20) (cond (Nat.beq pc 18) (.invokestatic 34, 3, 21, 0, 0, 0) nopI) (cond (Nat.beq pc 21) (.ifCond .ne 7, 3, 24, 0, 28, 0) nopI)) (cond (Nat.ble pc 26) (cond (Nat.beq pc 24) (.sipush (-1002), 3, 27, -1002, 0, 0) nopI) (cond (Nat.ble pc 27) (cond (Nat.beq pc 27) (.ireturn, 1, 28, 0, 0, 0) nopI) (cond (Nat.beq pc 28) (.aload_n 0, 1, 29, 0, 0, 0) nopI)))) (cond (Nat.ble pc 32) (cond (Nat.ble pc 30) (cond (Nat.beq pc 29) (.bipush 118, 2, 31, 118, 0, 0) nopI) (cond (Nat.ble pc 31) (cond (Nat.beq pc 31) (.iload_n 1, 1, 32, 0, 1, 0) nopI) (cond (Nat.beq pc 32) (.iadd, 1, 33, 0, 0, 0) nopI))) (cond (Nat.ble pc 33) (cond (Nat.beq pc 33) (.iload_n 2, 1, 34, 0, 2, 0) nopI) (cond (Nat.ble pc 36) (cond (Nat.beq pc 34) (.invokevirtual 57, 3, 37, 0, 0, 0) nopI) (cond (Nat.beq pc 37) (.ireturn, 1, 38, 0, 0, 0) nopI))))))
def m_X8_setGroup : MI := (yX8_setGroup, cX8_setGroup, 3, (some .int), (4, 91, 0, 0), 38, k_X8_setGroup)
set_option maxRecDepth 100000 in
theorem ok_X8_setGroup : MOk m_X8_setGroup := MOk.of (by decide +kernel) (fun _ => rfl)
theorem om_X8_setGroup : okM m_X8_setGroup = true := by decide +kernel
def k_X8_set (pc : Nat) : Ins := cond (Nat.ble 41 pc) nopI (cond (Nat.ble pc 18) (cond (Nat.ble pc 8) (cond (Nat.ble pc 1) (cond (Nat.ble pc 0) (cond (Nat.beq pc 0) (.iload_n 1, 1, 1, 0, 1, 0) nopI) (cond (Nat.beq pc 1) (.iconst 0, 1, 2, 0, 0, 0) nopI)) (cond (Nat.ble pc 2) (cond (Nat.beq pc 2) (.iconst 2, 1, 3, 2, 0, 0) nopI) (cond (Nat.ble pc 5) (cond (Nat.beq pc 3) (.invokestatic 34, 3, 6, 0, 0, 0) nopI) (cond (Nat.beq pc 6) (.ifCond .eq 20, 3, 9, 0, 26, 0) nopI)))) (cond (Nat.ble pc 13) (cond (Nat.ble pc 9) (cond (Nat.beq pc 9) (.iload_n 2, 1, 10, 0, 2, 0) nopI) (cond (Nat.ble pc 12) (cond (Nat.beq pc 10) (.getstatic 61, 3, 13, 0, 4, 0) nopI) (cond (Nat.beq pc 13) (.iload_n 1, 1, 14, 0, 1, 0) nopI))) (cond (Nat.ble pc 14) (cond (Nat.beq pc 14) (.iaload, 1, 15, 0, 0, 0) nopI) (cond (Nat.ble pc 17) (cond (Nat.beq pc 15) (.getstatic 64, 3, 18, 0, 6, 0) nopI) (cond (Nat.beq pc 18) (.iload_n 1, 1, 19, 0, 1, 0) nopI))))) (cond (Nat.ble pc 30) (cond (Nat.ble pc 25) (cond (Nat.ble pc 19) (cond (Nat.beq pc 19) (.iaload, 1, 20, 0, 0, 0) nopI) (cond (Nat.ble pc 22) (cond (Nat.beq pc 20) (.invokestatic 34, 3, 23, 0, 0, 0) nopI) (cond (Nat.beq pc 23) (.ifCond .ne 7, 3, 26, 0, 30, 0) nopI))) (cond (Nat.ble pc 28) (cond (Nat.beq pc 26) (.sipush (-1002), 3, 29, -1002, 0, 0) nopI) (cond (Nat.ble pc 29) (cond (Nat.beq pc 29) (.ireturn, 1, 30, 0, 0, 0) nopI) (cond (Nat.beq pc 30) (.aload_n 0, 1, 31, 0, 0, 0) nopI)))) (cond (Nat.ble pc 35) (cond (Nat.ble pc 33) (cond (Nat.beq pc 31) (.sipush 128, 3, 34, 128, 0, 0) nopI) (cond (Nat.ble pc 34) (cond (Nat.beq pc 34) (.iload_n 1, 1, 35, 0, 1, 0) nopI) (cond (Nat.beq pc 35) (.iadd, 1, 36, 0, 0, 0) nopI))) (cond (Nat.ble pc 36) (cond (Nat.beq pc 36) (.iload_n 2, 1, 37, 0, 2, 0) nopI) (cond (Nat.ble pc 39) (cond (Nat.beq pc 37) (.invokevirtual 57, 3, 40, 0, 0, 0) nopI) (cond (Nat.beq pc 40) (.ireturn, 1, 41, 0, 0, 0) nopI))))))
def m_X8_set : MI := (yX8_set, cX8_set, 3, (some .int), (4, 91, 0, 0), 41, k_X8_set)
set_option maxRecDepth 100000 in
theorem ok_X8_set : MOk m_X8_set := MOk.of (by decide +kernel) (fun _ => rfl)
theorem om_X8_set : okM m_X8_set = true := by decide +kernel
def k_X8_isRightBy (pc : Nat) : Ins := cond (Nat.ble 24 pc) nopI (cond (Nat.ble pc 9) (cond (Nat.ble pc 6) (cond (Nat.ble pc 0) (cond (Nat.beq pc 0) (.iload_n 0, 1, 1, 0, 0, 0) nopI) (cond (Nat.ble pc 3) (cond (Nat.beq pc 1) (.invokestatic 187, 3, 4, 0, 0, 0) nopI) (cond (Nat.beq pc 4) (.ifCond .eq 12, 3, 7, 0, 16, 0) nopI))) (cond (Nat.ble pc 7) (cond (Nat.beq pc 7) (.iload_n 1, 1, 8, 0, 1, 0) nopI) (cond (Nat.ble pc 8) (cond (Nat.beq pc 8) (.iconst 0, 1, 9, 0, 0, 0) nopI) (cond (Nat.beq pc 9) (.iconst 4, 1, 10, 4, 0, 0) nopI)))) (cond (Nat.ble pc 16) (cond (Nat.ble pc 12) (cond (Nat.beq pc 10) (.invokestatic 34, 3, 13, 0, 0, 0) nopI) (cond (Nat.ble pc 15) (cond (Nat.beq pc 13) (.goto 10, 3, 16, 0, 23, 0) nopI) (cond (Nat.beq pc 16) (.iload_n 1, 1, 17, 0, 1, 0) nopI))) (cond (Nat.ble pc 19) (cond (Nat.ble pc 17) (cond (Nat.beq pc 17) (.iconst 1, 1, 18, 1, 0, 0) nopI) (cond (Nat.beq pc 18) (.bipush 60, 2, 20, 60, 0, 0) nopI)) (cond (Nat.ble pc 22) (cond (Nat.beq pc 20) (.invokestatic 34, 3, 23, 0, 0, 0) nopI) (cond (Nat.beq pc 23) (.ireturn, 1, 24, 0, 0, 0) nopI)))))
def m_X8_isRightBy : MI := (yX8_isRightBy, cX8_isRightBy, 2, (some .boolean), (1, 22, 0, 0), 24, k_X8_isRightBy)
set_option maxRecDepth 100000 in
theorem ok_X8_isRightBy : MOk m_X8_isRightBy := MOk.of (by decide +kernel) (fun _ => rfl)
theorem om_X8_isRightBy : okM m_X8_isRightBy = true := by decide +kernel
def k_X8_order (pc : Nat) : Ins := cond (Nat.ble 71 pc) nopI (cond (Nat.ble pc 35) (cond (Nat.ble pc 13) (cond (Nat.ble pc 5) (cond (Nat.ble pc 1) (cond (Nat.ble pc 0) (cond (Nat.beq pc 0) (.iload_n 1, 1, 1, 0, 1, 0) nopI) (cond (Nat.beq pc 1) (.iconst 0, 1, 2, 0, 0, 0) nopI)) (cond (Nat.ble pc 2) (cond (Nat.beq pc 2) (.iconst 4, 1, 3, 4, 0, 0) nopI) (cond (Nat.beq pc 3) (.invokestatic 34, 3, 6, 0, 0, 0) nopI))) (cond (Nat.ble pc 9) (cond (Nat.ble pc 8) (cond (Nat.beq pc 6) (.ifCond .eq 11, 3, 9, 0, 17, 0) nopI) (cond (Nat.beq pc 9) (.iload_n 1, 1, 10, 0, 1, 0) nopI)) (cond (Nat.ble pc 10) (cond (Nat.beq pc 10) (.iload_n 2, 1, 11, 0, 2, 0) nopI) (cond (Nat.beq pc 11) (.invokestatic 67, 3, 14, 0, 0, 0) nopI)))) (cond (Nat.ble pc 21) (cond (Nat.ble pc 19) (cond (Nat.ble pc 16) (cond (Nat.beq pc 14) (.ifCond .ne 7, 3, 17, 0, 21, 0) nopI) (cond (Nat.beq pc 17) (.sipush (-1002), 3, 20, -1002, 0, 0) nopI)) (cond (Nat.ble pc 20) (cond (Nat.beq pc 20) (.ireturn, 1, 21, 0, 0, 0) nopI) (cond (Nat.beq pc 21) (.aload_n 0, 1, 22, 0, 0, 0) nopI))) (cond (Nat.ble pc 27) (cond (Nat.ble pc 24) (cond (Nat.beq pc 22) (.getfield 10, 3, 25, 0, 4, 0) nopI) (cond (Nat.beq pc 25) (.sipush 155, 3, 28, 155, 0, 0) nopI)) (cond (Nat.ble pc 30) (cond (Nat.beq pc 28) (.invokevirtual 38, 3, 31, 0, 0, 0) nopI) (cond (Nat.ble pc 32) (cond (Nat.beq pc 31) (.bipush 12, 2, 33, 12, 0, 0) nopI) (cond (Nat.beq pc 33) (.if_icmp .lt 7, 3, 36, 0, 40, 0) nopI)))))) (cond (Nat.ble pc 51) (cond (Nat.ble pc 43) (cond (Nat.ble pc 39) (cond (Nat.ble pc 38) (cond (Nat.beq pc 36) (.sipush (-1003), 3, 39, -1003, 0, 0) nopI) (cond (Nat.beq pc 39) (.ireturn, 1, 40, 0, 0, 0) nopI)) (cond (Nat.ble pc 40) (cond (Nat.beq pc 40) (.aload_n 0, 1, 41, 0, 0, 0) nopI) (cond (Nat.beq pc 41) (.getfield 19, 3, 44, 0, 4, 1) nopI))) (cond (Nat.ble pc 47) (cond (Nat.ble pc 44) (cond (Nat.beq pc 44) (.aload_n 0, 1, 45, 0, 0, 0) nopI) (cond (Nat.beq pc 45) (.getfield 10, 3, 48, 0, 4, 0) nopI)) (cond (Nat.ble pc 50) (cond (Nat.beq pc 48) (.invokevirtual 49, 3, 51, 0, 0, 0) nopI) (cond (Nat.beq pc 51) (.aload_n 0, 1, 52, 0, 0, 0) nopI)))) (cond (Nat.ble pc 59) (cond (Nat.ble pc 55) (cond (Nat.ble pc 54) (cond (Nat.beq pc 52) (.getfield 10, 3, 55, 0, 4, 0) nopI) (cond (Nat.beq pc 55) (.iload_n 1, 1, 56, 0, 1, 0) nopI)) (cond (Nat.ble pc 56) (cond (Nat.beq pc 56) (.iload_n 2, 1, 57, 0, 2, 0) nopI) (cond (Nat.beq pc 57) (.invokestatic 71, 3, 60, 0, 0, 0) nopI))) (cond (Nat.ble pc 63) (cond (Nat.ble pc 60) (cond (Nat.beq pc 60) (.aload_n 0, 1, 61, 0, 0, 0) nopI) (cond (Nat.beq pc 61) (.getfield 10, 3, 64, 0, 4, 0) nopI)) (cond (Nat.ble pc 66) (cond (Nat.beq pc 64) (.sipush 155, 3, 67, 155, 0, 0) nopI) (cond (Nat.ble pc 69) (cond (Nat.beq pc 67) (.invokevirtual 38, 3, 70, 0, 0, 0) nopI) (cond (Nat.beq pc 70) (.ireturn, 1, 71, 0, 0, 0) nopI)))))))
def m_X8_order : MI := (yX8_order, cX8_order, 3, (some .int), (3, 68, 0, 0), 71, k_X8_order)
set_option maxRecDepth 100000 in
theorem ok_X8_order : MOk m_X8_order := MOk.of (by decide +kernel) (fun _ => rfl)
theorem om_X8_order : okM m_X8_order = true := by decide +kernel
def k_X8_strike (pc : Nat) : Ins := cond (Nat.ble 48 pc) nopI (cond (Nat.ble pc 23) (cond (Nat.ble pc 11) (cond (Nat.ble pc 2) (cond (Nat.ble pc 0) (cond (Nat.beq pc 0) (.iload_n 1, 1, 1, 0, 1, 0) nopI) (cond (Nat.ble pc 1) (cond (Nat.beq pc 1) (.iconst 0, 1, 2, 0, 0, 0) nopI) (cond (Nat.beq pc 2) (.iconst 4, 1, 3, 4, 0, 0) nopI))) (cond (Nat.ble pc 5) (cond (Nat.beq pc 3) (.invokestatic 34, 3, 6, 0, 0, 0) nopI) (cond (Nat.ble pc 8) (cond (Nat.beq pc 6) (.ifCond .ne 7, 3, 9, 0, 13, 0) nopI) (cond (Nat.beq pc 9) (.sipush (-1002), 3, 12, -1002, 0, 0) nopI)))) (cond (Nat.ble pc 16) (cond (Nat.ble pc 12) (cond (Nat.beq pc 12) (.ireturn, 1, 13, 0, 0, 0) nopI) (cond (Nat.ble pc 13) (cond (Nat.beq pc 13) (.aload_n 0, 1, 14, 0, 0, 0) nopI) (cond (Nat.beq pc 14) (.getfield 10, 3, 17, 0, 4, 0) nopI))) (cond (Nat.ble pc 17) (cond (Nat.beq pc 17) (.iload_n 1, 1, 18, 0, 1, 0) nopI) (cond (Nat.ble pc 20) (cond (Nat.beq pc 18) (.invokestatic 89, 3, 21, 0, 0, 0) nopI) (cond (Nat.beq pc 21) (.ifCond .ne 7, 3, 24, 0, 28, 0) nopI))))) (cond (Nat.ble pc 35) (cond (Nat.ble pc 28) (cond (Nat.ble pc 26) (cond (Nat.beq pc 24) (.sipush (-1005), 3, 27, -1005, 0, 0) nopI) (cond (Nat.ble pc 27) (cond (Nat.beq pc 27) (.ireturn, 1, 28, 0, 0, 0) nopI) (cond (Nat.beq pc 28) (.aload_n 0, 1, 29, 0, 0, 0) nopI))) (cond (Nat.ble pc 31) (cond (Nat.beq pc 29) (.getfield 19, 3, 32, 0, 4, 1) nopI) (cond (Nat.ble pc 32) (cond (Nat.beq pc 32) (.aload_n 0, 1, 33, 0, 0, 0) nopI) (cond (Nat.beq pc 33) (.getfield 10, 3, 36, 0, 4, 0) nopI)))) (cond (Nat.ble pc 42) (cond (Nat.ble pc 38) (cond (Nat.beq pc 36) (.invokevirtual 49, 3, 39, 0, 0, 0) nopI) (cond (Nat.ble pc 39) (cond (Nat.beq pc 39) (.aload_n 0, 1, 40, 0, 0, 0) nopI) (cond (Nat.beq pc 40) (.getfield 10, 3, 43, 0, 4, 0) nopI))) (cond (Nat.ble pc 43) (cond (Nat.beq pc 43) (.iload_n 1, 1, 44, 0, 1, 0) nopI) (cond (Nat.ble pc 46) (cond (Nat.beq pc 44) (.invokestatic 93, 3, 47, 0, 0, 0) nopI) (cond (Nat.beq pc 47) (.ireturn, 1, 48, 0, 0, 0) nopI))))))
def m_X8_strike : MI := (yX8_strike, cX8_strike, 2, (some .int), (3, 70, 0, 0), 48, k_X8_strike)
set_option maxRecDepth 100000 in
theorem ok_X8_strike : MOk m_X8_strike := MOk.of (by decide +kernel) (fun _ => rfl)
theorem om_X8_strike : okM m_X8_strike = true := by decide +kernel
def k_X8_work (pc : Nat) : Ins := cond (Nat.ble 86 pc) nopI (cond (Nat.ble pc 42) (cond (Nat.ble pc 20) (cond (Nat.ble pc 9) (cond (Nat.ble pc 1) (cond (Nat.ble pc 0) (cond (Nat.beq pc 0) (.iload_n 1, 1, 1, 0, 1, 0) nopI) (cond (Nat.beq pc 1) (.iconst 1, 1, 2, 1, 0, 0) nopI)) (cond (Nat.ble pc 3) (cond (Nat.beq pc 2) (.bipush 12, 2, 4, 12, 0, 0) nopI) (cond (Nat.ble pc 6) (cond (Nat.beq pc 4) (.invokestatic 34, 3, 7, 0, 0, 0) nopI) (cond (Nat.beq pc 7) (.ifCond .ne 7, 3, 10, 0, 14, 0) nopI)))) (cond (Nat.ble pc 13) (cond (Nat.ble pc 12) (cond (Nat.beq pc 10) (.sipush (-1002), 3, 13, -1002, 0, 0) nopI) (cond (Nat.beq pc 13) (.ireturn, 1, 14, 0, 0, 0) nopI)) (cond (Nat.ble pc 14) (cond (Nat.beq pc 14) (.aload_n 0, 1, 15, 0, 0, 0) nopI) (cond (Nat.ble pc 17) (cond (Nat.beq pc 15) (.getfield 10, 3, 18, 0, 4, 0) nopI) (cond (Nat.beq pc 18) (.sipush 155, 3, 21, 155, 0, 0) nopI))))) (cond (Nat.ble pc 31) (cond (Nat.ble pc 26) (cond (Nat.ble pc 23) (cond (Nat.beq pc 21) (.invokevirtual 38, 3, 24, 0, 0, 0) nopI) (cond (Nat.beq pc 24) (.ifCond .ne 7, 3, 27, 0, 31, 0) nopI)) (cond (Nat.ble pc 29) (cond (Nat.beq pc 27) (.sipush (-1005), 3, 30, -1005, 0, 0) nopI) (cond (Nat.ble pc 30) (cond (Nat.beq pc 30) (.ireturn, 1, 31, 0, 0, 0) nopI) (cond (Nat.beq pc 31) (.aload_n 0, 1, 32, 0, 0, 0) nopI)))) (cond (Nat.ble pc 35) (cond (Nat.ble pc 34) (cond (Nat.beq pc 32) (.getfield 19, 3, 35, 0, 4, 1) nopI) (cond (Nat.beq pc 35) (.aload_n 0, 1, 36, 0, 0, 0) nopI)) (cond (Nat.ble pc 38) (cond (Nat.beq pc 36) (.getfield 10, 3, 39, 0, 4, 0) nopI) (cond (Nat.ble pc 41) (cond (Nat.beq pc 39) (.invokevirtual 49, 3, 42, 0, 0, 0) nopI) (cond (Nat.beq pc 42) (.aload_n 0, 1, 43, 0, 0, 0) nopI)))))) (cond (Nat.ble pc 60) (cond (Nat.ble pc 53) (cond (Nat.ble pc 48) (cond (Nat.ble pc 45) (cond (Nat.beq pc 43) (.getfield 10, 3, 46, 0, 4, 0) nopI) (cond (Nat.beq pc 46) (.sipush 160, 3, 49, 160, 0, 0) nopI)) (cond (Nat.ble pc 51) (cond (Nat.beq pc 49) (.invokevirtual 38, 3, 52, 0, 0, 0) nopI) (cond (Nat.ble pc 52) (cond (Nat.beq pc 52) (.istore_n 2, 1, 53, 0, 2, 0) nopI) (cond (Nat.beq pc 53) (.iconst 0, 1, 54, 0, 0, 0) nopI)))) (cond (Nat.ble pc 55) (cond (Nat.ble pc 54) (cond (Nat.beq pc 54) (.istore_n 3, 1, 55, 0, 3, 0) nopI) (cond (Nat.beq pc 55) (.iload_n 3, 1, 56, 0, 3, 0) nopI)) (cond (Nat.ble pc 56) (cond (Nat.beq pc 56) (.iload_n 1, 1, 57, 0, 1, 0) nopI) (cond (Nat.ble pc 59) (cond (Nat.beq pc 57) (.if_icmp .ge 16, 3, 60, 0, 73, 0) nopI) (cond (Nat.beq pc 60) (.aload_n 0, 1, 61, 0, 0, 0) nopI))))) (cond (Nat.ble pc 73) (cond (Nat.ble pc 66) (cond (Nat.ble pc 63) (cond (Nat.beq pc 61) (.getfield 10, 3, 64, 0, 4, 0) nopI) (cond (Nat.beq pc 64) (.invokestatic 97, 3, 67, 0, 0, 0) nopI)) (cond (Nat.ble pc 69) (cond (Nat.beq pc 67) (.iinc 3 1, 3, 70, 1, 3, 0) nopI) (cond (Nat.ble pc 72) (cond (Nat.beq pc 70) (.goto (-15), 3, 73, 0, 55, 0) nopI) (cond (Nat.beq pc 73) (.aload_n 0, 1, 74, 0, 0, 0) nopI)))) (cond (Nat.ble pc 82) (cond (Nat.ble pc 76) (cond (Nat.beq pc 74) (.getfield 10, 3, 77, 0, 4, 0) nopI) (cond (Nat.ble pc 79) (cond (Nat.beq pc 77) (.sipush 160, 3, 80, 160, 0, 0) nopI) (cond (Nat.beq pc 80) (.invokevirtual 38, 3, 83, 0, 0, 0) nopI))) (cond (Nat.ble pc 83) (cond (Nat.beq pc 83) (.iload_n 2, 1, 84, 0, 2, 0) nopI) (cond (Nat.ble pc 84) (cond (Nat.beq pc 84) (.isub, 1, 85, 0, 0, 0) nopI) (cond (Nat.beq pc 85) (.ireturn, 1, 86, 0, 0, 0) nopI)))))))
def m_X8_work : MI := (yX8_work, cX8_work, 4, (some .int), (6, 139, 0, 0), 86, k_X8_work)
set_option maxRecDepth 100000 in
theorem ok_X8_work : MOk m_X8_work := MOk.of (by decide +kernel) (fun _ => rfl)
theorem om_X8_work : okM m_X8_work = true := by decide +kernel
def k_X8_pass (pc : Nat) : Ins := cond (Nat.ble 43 pc) nopI (cond (Nat.ble pc 19) (cond (Nat.ble pc 10) (cond (Nat.ble pc 1) (cond (Nat.ble pc 0) (cond (Nat.beq pc 0) (.iload_n 1, 1, 1, 0, 1, 0) nopI) (cond (Nat.beq pc 1) (.iconst 1, 1, 2, 1, 0, 0) nopI)) (cond (Nat.ble pc 4) (cond (Nat.beq pc 2) (.sipush 200, 3, 5, 200, 0, 0) nopI) (cond (Nat.ble pc 7) (cond (Nat.beq pc 5) (.invokestatic 34, 3, 8, 0, 0, 0) nopI) (cond (Nat.beq pc 8) (.ifCond .ne 7, 3, 11, 0, 15, 0) nopI)))) (cond (Nat.ble pc 14) (cond (Nat.ble pc 13) (cond (Nat.beq pc 11) (.sipush (-1002), 3, 14, -1002, 0, 0) nopI) (cond (Nat.beq pc 14) (.ireturn, 1, 15, 0, 0, 0) nopI)) (cond (Nat.ble pc 15) (cond (Nat.beq pc 15) (.aload_n 0, 1, 16, 0, 0, 0) nopI) (cond (Nat.ble pc 18) (cond (Nat.beq pc 16) (.getfield 19, 3, 19, 0, 4, 1) nopI) (cond (Nat.beq pc 19) (.aload_n 0, 1, 20, 0, 0, 0) nopI))))) (cond (Nat.ble pc 30) (cond (Nat.ble pc 25) (cond (Nat.ble pc 22) (cond (Nat.beq pc 20) (.getfield 10, 3, 23, 0, 4, 0) nopI) (cond (Nat.beq pc 23) (.invokevirtual 49, 3, 26, 0, 0, 0) nopI)) (cond (Nat.ble pc 26) (cond (Nat.beq pc 26) (.aload_n 0, 1, 27, 0, 0, 0) nopI) (cond (Nat.ble pc 29) (cond (Nat.beq pc 27) (.getfield 10, 3, 30, 0, 4, 0) nopI) (cond (Nat.beq pc 30) (.iconst (-1), 1, 31, -1, 0, 0) nopI)))) (cond (Nat.ble pc 35) (cond (Nat.ble pc 31) (cond (Nat.beq pc 31) (.iload_n 1, 1, 32, 0, 1, 0) nopI) (cond (Nat.ble pc 34) (cond (Nat.beq pc 32) (.invokestatic 100, 3, 35, 0, 0, 0) nopI) (cond (Nat.beq pc 35) (.aload_n 0, 1, 36, 0, 0, 0) nopI))) (cond (Nat.ble pc 38) (cond (Nat.beq pc 36) (.getfield 10, 3, 39, 0, 4, 0) nopI) (cond (Nat.ble pc 41) (cond (Nat.beq pc 39) (.invokevirtual 105, 3, 42, 0, 0, 0) nopI) (cond (Nat.beq pc 42) (.ireturn, 1, 43, 0, 0, 0) nopI))))))
def m_X8_pass : MI := (yX8_pass, cX8_pass, 2, (some .int), (5, 117, 0, 0), 43, k_X8_pass)
set_option maxRecDepth 100000 in
theorem ok_X8_pass : MOk m_X8_pass := MOk.of (by decide +kernel) (fun _ => rfl)
theorem om_X8_pass : okM m_X8_pass = true := by decide +kernel
def k_X8_sound (pc : Nat) : Ins := cond (Nat.ble 44 pc) nopI (cond (Nat.ble pc 21) (cond (Nat.ble pc 9) (cond (Nat.ble pc 1) (cond (Nat.ble pc 0) (cond (Nat.beq pc 0) (.iload_n 1, 1, 1, 0, 1, 0) nopI) (cond (Nat.beq pc 1) (.iconst 0, 1, 2, 0, 0, 0) nopI)) (cond (Nat.ble pc 3) (cond (Nat.beq pc 2) (.bipush 7, 2, 4, 7, 0, 0) nopI) (cond (Nat.ble pc 6) (cond (Nat.beq pc 4) (.invokestatic 34, 3, 7, 0, 0, 0) nopI) (cond (Nat.beq pc 7) (.ifCond .ne 7, 3, 10, 0, 14, 0) nopI)))) (cond (Nat.ble pc 14) (cond (Nat.ble pc 12) (cond (Nat.beq pc 10) (.sipush (-1001), 3, 13, -1001, 0, 0) nopI) (cond (Nat.ble pc 13) (cond (Nat.beq pc 13) (.ireturn, 1, 14, 0, 0, 0) nopI) (cond (Nat.beq pc 14) (.aload_n 0, 1, 15, 0, 0, 0) nopI))) (cond (Nat.ble pc 17) (cond (Nat.beq pc 15) (.getfield 19, 3, 18, 0, 4, 1) nopI) (cond (Nat.ble pc 18) (cond (Nat.beq pc 18) (.aload_n 0, 1, 19, 0, 0, 0) nopI) (cond (Nat.beq pc 19) (.getfield 10, 3, 22, 0, 4, 0) nopI))))) (cond (Nat.ble pc 33) (cond (Nat.ble pc 28) (cond (Nat.ble pc 24) (cond (Nat.beq pc 22) (.invokevirtual 49, 3, 25, 0, 0, 0) nopI) (cond (Nat.ble pc 25) (cond (Nat.beq pc 25) (.aload_n 0, 1, 26, 0, 0, 0) nopI) (cond (Nat.beq pc 26) (.getfield 10, 3, 29, 0, 4, 0) nopI))) (cond (Nat.ble pc 29) (cond (Nat.beq pc 29) (.iload_n 1, 1, 30, 0, 1, 0) nopI) (cond (Nat.ble pc 32) (cond (Nat.beq pc 30) (.invokestatic 108, 3, 33, 0, 0, 0) nopI) (cond (Nat.beq pc 33) (.aload_n 0, 1, 34, 0, 0, 0) nopI)))) (cond (Nat.ble pc 38) (cond (Nat.ble pc 36) (cond (Nat.beq pc 34) (.getfield 10, 3, 37, 0, 4, 0) nopI) (cond (Nat.ble pc 37) (cond (Nat.beq pc 37) (.iconst 0, 1, 38, 0, 0, 0) nopI) (cond (Nat.beq pc 38) (.iload_n 1, 1, 39, 0, 1, 0) nopI))) (cond (Nat.ble pc 39) (cond (Nat.beq pc 39) (.iadd, 1, 40, 0, 0, 0) nopI) (cond (Nat.ble pc 42) (cond (Nat.beq pc 40) (.invokevirtual 38, 3, 43, 0, 0, 0) nopI) (cond (Nat.beq pc 43) (.ireturn, 1, 44, 0, 0, 0) nopI))))))
def m_X8_sound : MI := (yX8_sound, cX8_sound, 2, (some .int), (3, 70, 0, 0), 44, k_X8_sound)
set_option maxRecDepth 100000 in
theorem ok_X8_sound : MOk m_X8_sound := MOk.of (by decide +kernel) (fun _ => rfl)
theorem om_X8_sound : okM m_X8_sound = true := by decide +kernel
def k_X8_undo (pc : Nat) : Ins := cond (Nat.ble 33 pc) nopI (cond (Nat.ble pc 14) (cond (Nat.ble pc 6) (cond (Nat.ble pc 0) (cond (Nat.beq pc 0) (.aload_n 0, 1, 1, 0, 0, 0) nopI) (cond (Nat.ble pc 3) (cond (Nat.beq pc 1) (.getfield 19, 3, 4, 0, 4, 1) nopI) (cond (Nat.beq pc 4) (.invokevirtual 123, 3, 7, 0, 0, 0) nopI))) (cond (Nat.ble pc 12) (cond (Nat.ble pc 9) (cond (Nat.beq pc 7) (.ifCond .ne 7, 3, 10, 0, 14, 0) nopI) (cond (Nat.beq pc 10) (.sipush (-1005), 3, 13, -1005, 0, 0) nopI)) (cond (Nat.ble pc 13) (cond (Nat.beq pc 13) (.ireturn, 1, 14, 0, 0, 0) nopI) (cond (Nat.beq pc 14) (.aload_n 0, 1, 15, 0, 0, 0) nopI)))) (cond (Nat.ble pc 24) (cond (Nat.ble pc 18) (cond (Nat.ble pc 17) (cond (Nat.beq pc 15) (.getfield 19, 3, 18, 0, 4, 1) nopI) (cond (Nat.beq pc 18) (.aload_n 0, 1, 19, 0, 0, 0) nopI)) (cond (Nat.ble pc 21) (cond (Nat.beq pc 19) (.getfield 10, 3, 22, 0, 4, 0) nopI) (cond (Nat.beq pc 22) (.invokevirtual 124, 3, 25, 0, 0, 0) nopI))) (cond (Nat.ble pc 28) (cond (Nat.ble pc 25) (cond (Nat.beq pc 25) (.aload_n 0, 1, 26, 0, 0, 0) nopI) (cond (Nat.beq pc 26) (.getfield 19, 3, 29, 0, 4, 1) nopI)) (cond (Nat.ble pc 31) (cond (Nat.beq pc 29) (.invokevirtual 123, 3, 32, 0, 0, 0) nopI) (cond (Nat.beq pc 32) (.ireturn, 1, 33, 0, 0, 0) nopI)))))
def m_X8_undo : MI := (yX8_undo, cX8_undo, 1, (some .int), (3, 69, 0, 0), 33, k_X8_undo)
set_option maxRecDepth 100000 in
theorem ok_X8_undo : MOk m_X8_undo := MOk.of (by decide +kernel) (fun _ => rfl)
theorem om_X8_undo : okM m_X8_undo = true := by decide +kernel
def k_X8_tank (pc : Nat) : Ins := cond (Nat.ble 162 pc) nopI (cond (Nat.ble pc 98) (cond (Nat.ble pc 66) (cond (Nat.ble pc 14) (cond (Nat.ble pc 6) (cond (Nat.ble pc 1) (cond (Nat.ble pc 0) (cond (Nat.beq pc 0) (.iload_n 1, 1, 1, 0, 1, 0) nopI) (cond (Nat.beq pc 1) (.iconst 0, 1, 2, 0, 0, 0) nopI)) (cond (Nat.ble pc 3) (cond (Nat.beq pc 2) (.bipush 7, 2, 4, 7, 0, 0) nopI) (cond (Nat.beq pc 4) (.invokestatic 34, 3, 7, 0, 0, 0) nopI))) (cond (Nat.ble pc 12) (cond (Nat.ble pc 9) (cond (Nat.beq pc 7) (.ifCond .ne 7, 3, 10, 0, 14, 0) nopI) (cond (Nat.beq pc 10) (.sipush (-1001), 3, 13, -1001, 0, 0) nopI)) (cond (Nat.ble pc 13) (cond (Nat.beq pc 13) (.ireturn, 1, 14, 0, 0, 0) nopI) (cond (Nat.beq pc 14) (.iload_n 2, 1, 15, 0, 2, 0) nopI)))) (cond (Nat.ble pc 60) (cond (Nat.ble pc 56) (cond (Nat.ble pc 55) (cond (Nat.beq pc 15) (.tableswitch 143 0 6 #[41, 52, 64, 84, 93, 105, 131], 41, 56, 0, 0, 0) nopI) (cond (Nat.beq pc 56) (.aload_n 0, 1, 57, 0, 0, 0) nopI)) (cond (Nat.ble pc 59) (cond (Nat.beq pc 57) (.getfield 10, 3, 60, 0, 4, 0) nopI) (cond (Nat.beq pc 60) (.iconst 0, 1, 61, 0, 0, 0) nopI))) (cond (Nat.ble pc 62) (cond (Nat.ble pc 61) (cond (Nat.beq pc 61) (.iload_n 1, 1, 62, 0, 1, 0) nopI) (cond (Nat.beq pc 62) (.iadd, 1, 63, 0, 0, 0) nopI)) (cond (Nat.ble pc 65) (cond (Nat.beq pc 63) (.invokevirtual 38, 3, 66, 0, 0, 0) nopI) (cond (Nat.beq pc 66) (.ireturn, 1, 67, 0, 0, 0) nopI))))) (cond (Nat.ble pc 79) (cond (Nat.ble pc 73) (cond (Nat.ble pc 70) (cond (Nat.ble pc 67) (cond (Nat.beq pc 67) (.aload_n 0, 1, 68, 0, 0, 0) nopI) (cond (Nat.beq pc 68) (.getfield 10, 3, 71, 0, 4, 0) nopI)) (cond (Nat.ble pc 72) (cond (Nat.beq pc 71) (.bipush 8, 2, 73, 8, 0, 0) nopI) (cond (Nat.beq pc 73) (.iload_n 1, 1, 74, 0, 1, 0) nopI))) (cond (Nat.ble pc 77) (cond (Nat.ble pc 74) (cond (Nat.beq pc 74) (.iadd, 1, 75, 0, 0, 0) nopI) (cond (Nat.beq pc 75) (.invokevirtual 38, 3, 78, 0, 0, 0) nopI)) (cond (Nat.ble pc 78) (cond (Nat.beq pc 78) (.ireturn, 1, 79, 0, 0, 0) nopI) (cond (Nat.beq pc 79) (.aload_n 0, 1, 80, 0, 0, 0) nopI)))) (cond (Nat.ble pc 89) (cond (Nat.ble pc 85) (cond (Nat.ble pc 82) (cond (Nat.beq pc 80) (.getfield 10, 3, 83, 0, 4, 0) nopI) (cond (Nat.beq pc 83) (.invokevirtual 138, 3, 86, 0, 0, 0) nopI)) (cond (Nat.ble pc 86) (cond (Nat.beq pc 86) (.iload_n 1, 1, 87, 0, 1, 0) nopI) (cond (Nat.beq pc 87) (.invokestatic 141, 3, 90, 0, 0, 0) nopI))) (cond (Nat.ble pc 93) (cond (Nat.ble pc 92) (cond (Nat.beq pc 90) (.ifCond .eq 7, 3, 93, 0, 97, 0) nopI) (cond (Nat.beq pc 93) (.iconst 1, 1, 94, 1, 0, 0) nopI)) (cond (Nat.ble pc 96) (cond (Nat.beq pc 94) (.goto 4, 3, 97, 0, 98, 0) nopI) (cond (Nat.ble pc 97) (cond (Nat.beq pc 97) (.iconst 0, 1, 98, 0, 0, 0) nopI) (cond (Nat.beq pc 98) (.ireturn, 1, 99, 0, 0, 0) nopI))))))) (cond (Nat.ble pc 127) (cond (Nat.ble pc 113) (cond (Nat.ble pc 106) (cond (Nat.ble pc 102) (cond (Nat.ble pc 99) (cond (Nat.beq pc 99) (.aload_n 0, 1, 100, 0, 0, 0) nopI) (cond (Nat.beq pc 100) (.getfield 10, 3, 103, 0, 4, 0) nopI)) (cond (Nat.ble pc 103) (cond (Nat.beq pc 103) (.iload_n 1, 1, 104, 0, 1, 0) nopI) (cond (Nat.beq pc 104) (.invokevirtual 144, 3, 107, 0, 0, 0) nopI))) (cond (Nat.ble pc 108) (cond (Nat.ble pc 107) (cond (Nat.beq pc 107) (.ireturn, 1, 108, 0, 0, 0) nopI) (cond (Nat.beq pc 108) (.aload_n 0, 1, 109, 0, 0, 0) nopI)) (cond (Nat.ble pc 111) (cond (Nat.beq pc 109) (.getfield 10, 3, 112, 0, 4, 0) nopI) (cond (Nat.beq pc 112) (.bipush 32, 2, 114, 32, 0, 0) nopI)))) (cond (Nat.ble pc 119) (cond (Nat.ble pc 115) (cond (Nat.ble pc 114) (cond (Nat.beq pc 114) (.iload_n 1, 1, 115, 0, 1, 0) nopI) (cond (Nat.beq pc 115) (.iadd, 1, 116, 0, 0, 0) nopI)) (cond (Nat.ble pc 118) (cond (Nat.beq pc 116) (.invokevirtual 38, 3, 119, 0, 0, 0) nopI) (cond (Nat.beq pc 119) (.ireturn, 1, 120, 0, 0, 0) nopI))) (cond (Nat.ble pc 123) (cond (Nat.ble pc 120) (cond (Nat.beq pc 120) (.aload_n 0, 1, 121, 0, 0, 0) nopI) (cond (Nat.beq pc 121) (.getfield 10, 3, 124, 0, 4, 0) nopI)) (cond (Nat.ble pc 124) (cond (Nat.beq pc 124) (.iload_n 1, 1, 125, 0, 1, 0) nopI) (cond (Nat.beq pc 125) (.invokestatic 147, 3, 128, 0, 0, 0) nopI))))) (cond (Nat.ble pc 145) (cond (Nat.ble pc 135) (cond (Nat.ble pc 131) (cond (Nat.ble pc 130) (cond (Nat.beq pc 128) (.ifCond .eq 14, 3, 131, 0, 142, 0) nopI) (cond (Nat.beq pc 131) (.aload_n 0, 1, 132, 0, 0, 0) nopI)) (cond (Nat.ble pc 134) (cond (Nat.beq pc 132) (.getfield 10, 3, 135, 0, 4, 0) nopI) (cond (Nat.beq pc 135) (.iload_n 1, 1, 136, 0, 1, 0) nopI))) (cond (Nat.ble pc 141) (cond (Nat.ble pc 138) (cond (Nat.beq pc 136) (.invokestatic 150, 3, 139, 0, 0, 0) nopI) (cond (Nat.beq pc 139) (.goto 6, 3, 142, 0, 145, 0) nopI)) (cond (Nat.ble pc 144) (cond (Nat.beq pc 142) (.sipush (-1005), 3, 145, -1005, 0, 0) nopI) (cond (Nat.beq pc 145) (.ireturn, 1, 146, 0, 0, 0) nopI)))) (cond (Nat.ble pc 152) (cond (Nat.ble pc 149) (cond (Nat.ble pc 146) (cond (Nat.beq pc 146) (.aload_n 0, 1, 147, 0, 0, 0) nopI) (cond (Nat.beq pc 147) (.getfield 10, 3, 150, 0, 4, 0) nopI)) (cond (Nat.ble pc 151) (cond (Nat.beq pc 150) (.bipush 16, 2, 152, 16, 0, 0) nopI) (cond (Nat.beq pc 152) (.iload_n 1, 1, 153, 0, 1, 0) nopI))) (cond (Nat.ble pc 156) (cond (Nat.ble pc 153) (cond (Nat.beq pc 153) (.iadd, 1, 154, 0, 0, 0) nopI) (cond (Nat.beq pc 154) (.invokevirtual 38, 3, 157, 0, 0, 0) nopI)) (cond (Nat.ble pc 157) (cond (Nat.beq pc 157) (.ireturn, 1, 158, 0, 0, 0) nopI) (cond (Nat.ble pc 160) (cond (Nat.beq pc 158) (.sipush (-1002), 3, 161, -1002, 0, 0) nopI) (cond (Nat.beq pc 161) (.ireturn, 1, 162, 0, 0, 0) nopI))))))))
def m_X8_tank : MI := (yX8_tank, cX8_tank, 3, (some .int), (2, 44, 0, 0), 162, k_X8_tank)
set_option maxRecDepth 100000 in
theorem ok_X8_tank : MOk m_X8_tank := MOk.of (by decide +kernel) (fun _ => rfl)
theorem om_X8_tank : okM m_X8_tank = true := by decide +kernel
def k_X8_sounding (pc : Nat) : Ins := cond (Nat.ble 70 pc) nopI (cond (Nat.ble pc 33) (cond (Nat.ble pc 17) (cond (Nat.ble pc 6) (cond (Nat.ble pc 1) (cond (Nat.ble pc 0) (cond (Nat.beq pc 0) (.iload_n 1, 1, 1, 0, 1, 0) nopI) (cond (Nat.beq pc 1) (.iconst 0, 1, 2, 0, 0, 0) nopI)) (cond (Nat.ble pc 3) (cond (Nat.beq pc 2) (.bipush 7, 2, 4, 7, 0, 0) nopI) (cond (Nat.beq pc 4) (.invokestatic 34, 3, 7, 0, 0, 0) nopI))) (cond (Nat.ble pc 12) (cond (Nat.ble pc 9) (cond (Nat.beq pc 7) (.ifCond .ne 7, 3, 10, 0, 14, 0) nopI) (cond (Nat.beq pc 10) (.sipush (-1001), 3, 13, -1001, 0, 0) nopI)) (cond (Nat.ble pc 13) (cond (Nat.beq pc 13) (.ireturn, 1, 14, 0, 0, 0) nopI) (cond (Nat.ble pc 14) (cond (Nat.beq pc 14) (.iload_n 2, 1, 15, 0, 2, 0) nopI) (cond (Nat.beq pc 15) (.ifCond .ge 7, 3, 18, 0, 22, 0) nopI))))) (cond (Nat.ble pc 23) (cond (Nat.ble pc 21) (cond (Nat.ble pc 20) (cond (Nat.beq pc 18) (.sipush (-1002), 3, 21, -1002, 0, 0) nopI) (cond (Nat.beq pc 21) (.ireturn, 1, 22, 0, 0, 0) nopI)) (cond (Nat.ble pc 22) (cond (Nat.beq pc 22) (.iload_n 2, 1, 23, 0, 2, 0) nopI) (cond (Nat.beq pc 23) (.aload_n 0, 1, 24, 0, 0, 0) nopI))) (cond (Nat.ble pc 28) (cond (Nat.ble pc 26) (cond (Nat.beq pc 24) (.getfield 10, 3, 27, 0, 4, 0) nopI) (cond (Nat.beq pc 27) (.bipush 32, 2, 29, 32, 0, 0) nopI)) (cond (Nat.ble pc 29) (cond (Nat.beq pc 29) (.iload_n 1, 1, 30, 0, 1, 0) nopI) (cond (Nat.ble pc 30) (cond (Nat.beq pc 30) (.iadd, 1, 31, 0, 0, 0) nopI) (cond (Nat.beq pc 31) (.invokevirtual 38, 3, 34, 0, 0, 0) nopI)))))) (cond (Nat.ble pc 53) (cond (Nat.ble pc 41) (cond (Nat.ble pc 39) (cond (Nat.ble pc 36) (cond (Nat.beq pc 34) (.if_icmp .lt 7, 3, 37, 0, 41, 0) nopI) (cond (Nat.beq pc 37) (.sipush (-1005), 3, 40, -1005, 0, 0) nopI)) (cond (Nat.ble pc 40) (cond (Nat.beq pc 40) (.ireturn, 1, 41, 0, 0, 0) nopI) (cond (Nat.beq pc 41) (.iload_n 3, 1, 42, 0, 3, 0) nopI))) (cond (Nat.ble pc 46) (cond (Nat.ble pc 44) (cond (Nat.beq pc 42) (.ifCond .eq 8, 3, 45, 0, 50, 0) nopI) (cond (Nat.beq pc 45) (.bipush 40, 2, 47, 40, 0, 0) nopI)) (cond (Nat.ble pc 49) (cond (Nat.beq pc 47) (.goto 5, 3, 50, 0, 52, 0) nopI) (cond (Nat.ble pc 51) (cond (Nat.beq pc 50) (.bipush 64, 2, 52, 64, 0, 0) nopI) (cond (Nat.beq pc 52) (.istore 4, 2, 54, 0, 4, 0) nopI))))) (cond (Nat.ble pc 60) (cond (Nat.ble pc 57) (cond (Nat.ble pc 54) (cond (Nat.beq pc 54) (.aload_n 0, 1, 55, 0, 0, 0) nopI) (cond (Nat.beq pc 55) (.getfield 10, 3, 58, 0, 4, 0) nopI)) (cond (Nat.ble pc 59) (cond (Nat.beq pc 58) (.iload 4, 2, 60, 0, 4, 0) nopI) (cond (Nat.beq pc 60) (.iload_n 1, 1, 61, 0, 1, 0) nopI))) (cond (Nat.ble pc 64) (cond (Nat.ble pc 61) (cond (Nat.beq pc 61) (.iload_n 2, 1, 62, 0, 2, 0) nopI) (cond (Nat.beq pc 62) (.invokestatic 153, 3, 65, 0, 0, 0) nopI)) (cond (Nat.ble pc 65) (cond (Nat.beq pc 65) (.iadd, 1, 66, 0, 0, 0) nopI) (cond (Nat.ble pc 68) (cond (Nat.beq pc 66) (.invokevirtual 38, 3, 69, 0, 0, 0) nopI) (cond (Nat.beq pc 69) (.ireturn, 1, 70, 0, 0, 0) nopI)))))))
def m_X8_sounding : MI := (yX8_sounding, cX8_sounding, 5, (some .int), (1, 22, 0, 0), 70, k_X8_sounding)
set_option maxRecDepth 100000 in
theorem ok_X8_sounding : MOk m_X8_sounding := MOk.of (by decide +kernel) (fun _ => rfl)
theorem om_X8_sounding : okM m_X8_sounding = true := by decide +kernel
def k_X8_hold (pc : Nat) : Ins := cond (Nat.ble 68 pc) nopI (cond (Nat.ble pc 45) (cond (Nat.ble pc 11) (cond (Nat.ble pc 2) (cond (Nat.ble pc 0) (cond (Nat.beq pc 0) (.iload_n 1, 1, 1, 0, 1, 0) nopI) (cond (Nat.ble pc 1) (cond (Nat.beq pc 1) (.iconst 0, 1, 2, 0, 0, 0) nopI) (cond (Nat.beq pc 2) (.iconst 2, 1, 3, 2, 0, 0) nopI))) (cond (Nat.ble pc 5) (cond (Nat.beq pc 3) (.invokestatic 34, 3, 6, 0, 0, 0) nopI) (cond (Nat.ble pc 8) (cond (Nat.beq pc 6) (.ifCond .ne 7, 3, 9, 0, 13, 0) nopI) (cond (Nat.beq pc 9) (.sipush (-1001), 3, 12, -1001, 0, 0) nopI)))) (cond (Nat.ble pc 39) (cond (Nat.ble pc 12) (cond (Nat.beq pc 12) (.ireturn, 1, 13, 0, 0, 0) nopI) (cond (Nat.ble pc 13) (cond (Nat.beq pc 13) (.iload_n 2, 1, 14, 0, 2, 0) nopI) (cond (Nat.beq pc 14) (.lookupswitch 50 #[(0, 26), (1, 38)], 26, 40, 0, 0, 0) nopI))) (cond (Nat.ble pc 40) (cond (Nat.beq pc 40) (.aload_n 0, 1, 41, 0, 0, 0) nopI) (cond (Nat.ble pc 43) (cond (Nat.beq pc 41) (.getfield 10, 3, 44, 0, 4, 0) nopI) (cond (Nat.beq pc 44) (.bipush 112, 2, 46, 112, 0, 0) nopI))))) (cond (Nat.ble pc 55) (cond (Nat.ble pc 50) (cond (Nat.ble pc 46) (cond (Nat.beq pc 46) (.iload_n 1, 1, 47, 0, 1, 0) nopI) (cond (Nat.ble pc 47) (cond (Nat.beq pc 47) (.iadd, 1, 48, 0, 0, 0) nopI) (cond (Nat.beq pc 48) (.invokevirtual 38, 3, 51, 0, 0, 0) nopI))) (cond (Nat.ble pc 51) (cond (Nat.beq pc 51) (.ireturn, 1, 52, 0, 0, 0) nopI) (cond (Nat.ble pc 52) (cond (Nat.beq pc 52) (.aload_n 0, 1, 53, 0, 0, 0) nopI) (cond (Nat.beq pc 53) (.getfield 10, 3, 56, 0, 4, 0) nopI)))) (cond (Nat.ble pc 59) (cond (Nat.ble pc 57) (cond (Nat.beq pc 56) (.bipush 115, 2, 58, 115, 0, 0) nopI) (cond (Nat.ble pc 58) (cond (Nat.beq pc 58) (.iload_n 1, 1, 59, 0, 1, 0) nopI) (cond (Nat.beq pc 59) (.iadd, 1, 60, 0, 0, 0) nopI))) (cond (Nat.ble pc 63) (cond (Nat.ble pc 62) (cond (Nat.beq pc 60) (.invokevirtual 38, 3, 63, 0, 0, 0) nopI) (cond (Nat.beq pc 63) (.ireturn, 1, 64, 0, 0, 0) nopI)) (cond (Nat.ble pc 66) (cond (Nat.beq pc 64) (.sipush (-1002), 3, 67, -1002, 0, 0) nopI) (cond (Nat.beq pc 67) (.ireturn, 1, 68, 0, 0, 0) nopI))))))
def m_X8_hold : MI := (yX8_hold, cX8_hold, 3, (some .int), (1, 22, 0, 0), 68, k_X8_hold)
set_option maxRecDepth 100000 in
theorem ok_X8_hold : MOk m_X8_hold := MOk.of (by decide +kernel) (fun _ => rfl)
theorem om_X8_hold : okM m_X8_hold = true := by decide +kernel
def k_X8_group (pc : Nat) : Ins := cond (Nat.ble 87 pc) nopI (cond (Nat.ble pc 52) (cond (Nat.ble pc 13) (cond (Nat.ble pc 5) (cond (Nat.ble pc 1) (cond (Nat.ble pc 0) (cond (Nat.beq pc 0) (.iload_n 1, 1, 1, 0, 1, 0) nopI) (cond (Nat.beq pc 1) (.iconst 0, 1, 2, 0, 0, 0) nopI)) (cond (Nat.ble pc 2) (cond (Nat.beq pc 2) (.iconst 4, 1, 3, 4, 0, 0) nopI) (cond (Nat.beq pc 3) (.invokestatic 34, 3, 6, 0, 0, 0) nopI))) (cond (Nat.ble pc 11) (cond (Nat.ble pc 8) (cond (Nat.beq pc 6) (.ifCond .ne 7, 3, 9, 0, 13, 0) nopI) (cond (Nat.beq pc 9) (.sipush (-1001), 3, 12, -1001, 0, 0) nopI)) (cond (Nat.ble pc 12) (cond (Nat.beq pc 12) (.ireturn, 1, 13, 0, 0, 0) nopI) (cond (Nat.beq pc 13) (.iload_n 2, 1, 14, 0, 2, 0) nopI)))) (cond (Nat.ble pc 45) (cond (Nat.ble pc 40) (cond (Nat.ble pc 39) (cond (Nat.beq pc 14) (.tableswitch 69 0 2 #[26, 38, 50], 26, 40, 0, 0, 0) nopI) (cond (Nat.beq pc 40) (.aload_n 0, 1, 41, 0, 0, 0) nopI)) (cond (Nat.ble pc 43) (cond (Nat.beq pc 41) (.getfield 10, 3, 44, 0, 4, 0) nopI) (cond (Nat.beq pc 44) (.bipush 118, 2, 46, 118, 0, 0) nopI))) (cond (Nat.ble pc 47) (cond (Nat.ble pc 46) (cond (Nat.beq pc 46) (.iload_n 1, 1, 47, 0, 1, 0) nopI) (cond (Nat.beq pc 47) (.iadd, 1, 48, 0, 0, 0) nopI)) (cond (Nat.ble pc 50) (cond (Nat.beq pc 48) (.invokevirtual 38, 3, 51, 0, 0, 0) nopI) (cond (Nat.ble pc 51) (cond (Nat.beq pc 51) (.ireturn, 1, 52, 0, 0, 0) nopI) (cond (Nat.beq pc 52) (.aload_n 0, 1, 53, 0, 0, 0) nopI)))))) (cond (Nat.ble pc 68) (cond (Nat.ble pc 59) (cond (Nat.ble pc 57) (cond (Nat.ble pc 55) (cond (Nat.beq pc 53) (.getfield 10, 3, 56, 0, 4, 0) nopI) (cond (Nat.beq pc 56) (.bipush 123, 2, 58, 123, 0, 0) nopI)) (cond (Nat.ble pc 58) (cond (Nat.beq pc 58) (.iload_n 1, 1, 59, 0, 1, 0) nopI) (cond (Nat.beq pc 59) (.iadd, 1, 60, 0, 0, 0) nopI))) (cond (Nat.ble pc 63) (cond (Nat.ble pc 62) (cond (Nat.beq pc 60) (.invokevirtual 38, 3, 63, 0, 0, 0) nopI) (cond (Nat.beq pc 63) (.ireturn, 1, 64, 0, 0, 0) nopI)) (cond (Nat.ble pc 64) (cond (Nat.beq pc 64) (.aload_n 0, 1, 65, 0, 0, 0) nopI) (cond (Nat.ble pc 67) (cond (Nat.beq pc 65) (.getfield 10, 3, 68, 0, 4, 0) nopI) (cond (Nat.beq pc 68) (.aload_n 0, 1, 69, 0, 0, 0) nopI))))) (cond (Nat.ble pc 75) (cond (Nat.ble pc 73) (cond (Nat.ble pc 71) (cond (Nat.beq pc 69) (.getfield 10, 3, 72, 0, 4, 0) nopI) (cond (Nat.beq pc 72) (.bipush 118, 2, 74, 118, 0, 0) nopI)) (cond (Nat.ble pc 74) (cond (Nat.beq pc 74) (.iload_n 1, 1, 75, 0, 1, 0) nopI) (cond (Nat.beq pc 75) (.iadd, 1, 76, 0, 0, 0) nopI))) (cond (Nat.ble pc 81) (cond (Nat.ble pc 78) (cond (Nat.beq pc 76) (.invokevirtual 38, 3, 79, 0, 0, 0) nopI) (cond (Nat.beq pc 79) (.invokevirtual 156, 3, 82, 0, 0, 0) nopI)) (cond (Nat.ble pc 82) (cond (Nat.beq pc 82) (.ireturn, 1, 83, 0, 0, 0) nopI) (cond (Nat.ble pc 85) (cond (Nat.beq pc 83) (.sipush (-1002), 3, 86, -1002, 0, 0) nopI) (cond (Nat.beq pc 86) (.ireturn, 1, 87, 0, 0, 0) nopI)))))))
def m_X8_group : MI := (yX8_group, cX8_group, 3, (some .int), (2, 44, 0, 0), 87, k_X8_group)
set_option maxRecDepth 100000 in
theorem ok_X8_group : MOk m_X8_group := MOk.of (by decide +kernel) (fun _ => rfl)
theorem om_X8_group : okM m_X8_group = true := by decide +kernel
def k_X8_waiting (pc : Nat) : Ins := cond (Nat.ble 104 pc) nopI (cond (Nat.ble pc 42) (cond (Nat.ble pc 17) (cond (Nat.ble pc 6) (cond (Nat.ble pc 3) (cond (Nat.ble pc 0) (cond (Nat.beq pc 0) (.iload_n 1, 1, 1, 0, 1, 0) nopI) (cond (Nat.beq pc 1) (.ifCond .lt 12, 3, 4, 0, 13, 0) nopI)) (cond (Nat.ble pc 4) (cond (Nat.beq pc 4) (.iload_n 2, 1, 5, 0, 2, 0) nopI) (cond (Nat.ble pc 5) (cond (Nat.beq pc 5) (.iconst 0, 1, 6, 0, 0, 0) nopI) (cond (Nat.beq pc 6) (.iconst 2, 1, 7, 2, 0, 0) nopI)))) (cond (Nat.ble pc 12) (cond (Nat.ble pc 9) (cond (Nat.beq pc 7) (.invokestatic 34, 3, 10, 0, 0, 0) nopI) (cond (Nat.beq pc 10) (.ifCond .ne 7, 3, 13, 0, 17, 0) nopI)) (cond (Nat.ble pc 15) (cond (Nat.beq pc 13) (.sipush (-1002), 3, 16, -1002, 0, 0) nopI) (cond (Nat.ble pc 16) (cond (Nat.beq pc 16) (.ireturn, 1, 17, 0, 0, 0) nopI) (cond (Nat.beq pc 17) (.iload_n 1, 1, 18, 0, 1, 0) nopI))))) (cond (Nat.ble pc 30) (cond (Nat.ble pc 21) (cond (Nat.ble pc 18) (cond (Nat.beq pc 18) (.aload_n 0, 1, 19, 0, 0, 0) nopI) (cond (Nat.beq pc 19) (.getfield 10, 3, 22, 0, 4, 0) nopI)) (cond (Nat.ble pc 24) (cond (Nat.beq pc 22) (.sipush 155, 3, 25, 155, 0, 0) nopI) (cond (Nat.ble pc 27) (cond (Nat.beq pc 25) (.invokevirtual 38, 3, 28, 0, 0, 0) nopI) (cond (Nat.beq pc 28) (.if_icmp .lt 7, 3, 31, 0, 35, 0) nopI)))) (cond (Nat.ble pc 35) (cond (Nat.ble pc 33) (cond (Nat.beq pc 31) (.sipush (-1005), 3, 34, -1005, 0, 0) nopI) (cond (Nat.ble pc 34) (cond (Nat.beq pc 34) (.ireturn, 1, 35, 0, 0, 0) nopI) (cond (Nat.beq pc 35) (.aload_n 0, 1, 36, 0, 0, 0) nopI))) (cond (Nat.ble pc 38) (cond (Nat.beq pc 36) (.getfield 10, 3, 39, 0, 4, 0) nopI) (cond (Nat.ble pc 41) (cond (Nat.beq pc 39) (.sipush 131, 3, 42, 131, 0, 0) nopI) (cond (Nat.beq pc 42) (.iload_n 1, 1, 43, 0, 1, 0) nopI)))))) (cond (Nat.ble pc 62) (cond (Nat.ble pc 51) (cond (Nat.ble pc 46) (cond (Nat.ble pc 43) (cond (Nat.beq pc 43) (.iadd, 1, 44, 0, 0, 0) nopI) (cond (Nat.beq pc 44) (.invokevirtual 38, 3, 47, 0, 0, 0) nopI)) (cond (Nat.ble pc 47) (cond (Nat.beq pc 47) (.istore_n 3, 1, 48, 0, 3, 0) nopI) (cond (Nat.ble pc 48) (cond (Nat.beq pc 48) (.aload_n 0, 1, 49, 0, 0, 0) nopI) (cond (Nat.beq pc 49) (.getfield 10, 3, 52, 0, 4, 0) nopI)))) (cond (Nat.ble pc 56) (cond (Nat.ble pc 54) (cond (Nat.beq pc 52) (.sipush 143, 3, 55, 143, 0, 0) nopI) (cond (Nat.ble pc 55) (cond (Nat.beq pc 55) (.iload_n 1, 1, 56, 0, 1, 0) nopI) (cond (Nat.beq pc 56) (.iadd, 1, 57, 0, 0, 0) nopI))) (cond (Nat.ble pc 59) (cond (Nat.beq pc 57) (.invokevirtual 38, 3, 60, 0, 0, 0) nopI) (cond (Nat.ble pc 61) (cond (Nat.beq pc 60) (.istore 4, 2, 62, 0, 4, 0) nopI) (cond (Nat.beq pc 62) (.iload_n 2, 1, 63, 0, 2, 0) nopI))))) (cond (Nat.ble pc 92) (cond (Nat.ble pc 88) (cond (Nat.ble pc 87) (cond (Nat.beq pc 63) (.lookupswitch 30 #[(0, 25), (1, 27)], 25, 88, 0, 0, 0) nopI) (cond (Nat.beq pc 88) (.iload_n 3, 1, 89, 0, 3, 0) nopI)) (cond (Nat.ble pc 89) (cond (Nat.beq pc 89) (.ireturn, 1, 90, 0, 0, 0) nopI) (cond (Nat.ble pc 91) (cond (Nat.beq pc 90) (.iload 4, 2, 92, 0, 4, 0) nopI) (cond (Nat.beq pc 92) (.ireturn, 1, 93, 0, 0, 0) nopI)))) (cond (Nat.ble pc 97) (cond (Nat.ble pc 93) (cond (Nat.beq pc 93) (.aload_n 0, 1, 94, 0, 0, 0) nopI) (cond (Nat.ble pc 96) (cond (Nat.beq pc 94) (.getfield 10, 3, 97, 0, 4, 0) nopI) (cond (Nat.beq pc 97) (.iload_n 3, 1, 98, 0, 3, 0) nopI))) (cond (Nat.ble pc 99) (cond (Nat.beq pc 98) (.iload 4, 2, 100, 0, 4, 0) nopI) (cond (Nat.ble pc 102) (cond (Nat.beq pc 100) (.invokestatic 159, 3, 103, 0, 0, 0) nopI) (cond (Nat.beq pc 103) (.ireturn, 1, 104, 0, 0, 0) nopI)))))))
def m_X8_waiting : MI := (yX8_waiting, cX8_waiting, 5, (some .int), (4, 91, 0, 0), 104, k_X8_waiting)
set_option maxRecDepth 100000 in
theorem ok_X8_waiting : MOk m_X8_waiting := MOk.of (by decide +kernel) (fun _ => rfl)
theorem om_X8_waiting : okM m_X8_waiting = true := by decide +kernel
def k_X8_trimMoment (pc : Nat) : Ins := cond (Nat.ble 24 pc) nopI (cond (Nat.ble pc 13) (cond (Nat.ble pc 4) (cond (Nat.ble pc 0) (cond (Nat.beq pc 0) (.iload_n 1, 1, 1, 0, 1, 0) nopI) (cond (Nat.ble pc 2) (cond (Nat.beq pc 1) (.bipush (-50), 2, 3, -50, 0, 0) nopI) (cond (Nat.beq pc 3) (.bipush 50, 2, 5, 50, 0, 0) nopI))) (cond (Nat.ble pc 7) (cond (Nat.beq pc 5) (.invokestatic 34, 3, 8, 0, 0, 0) nopI) (cond (Nat.ble pc 10) (cond (Nat.beq pc 8) (.ifCond .ne 7, 3, 11, 0, 15, 0) nopI) (cond (Nat.beq pc 11) (.sipush (-1002), 3, 14, -1002, 0, 0) nopI)))) (cond (Nat.ble pc 18) (cond (Nat.ble pc 14) (cond (Nat.beq pc 14) (.ireturn, 1, 15, 0, 0, 0) nopI) (cond (Nat.ble pc 15) (cond (Nat.beq pc 15) (.aload_n 0, 1, 16, 0, 0, 0) nopI) (cond (Nat.beq pc 16) (.getfield 10, 3, 19, 0, 4, 0) nopI))) (cond (Nat.ble pc 19) (cond (Nat.beq pc 19) (.iload_n 1, 1, 20, 0, 1, 0) nopI) (cond (Nat.ble pc 22) (cond (Nat.beq pc 20) (.invokevirtual 163, 3, 23, 0, 0, 0) nopI) (cond (Nat.beq pc 23) (.ireturn, 1, 24, 0, 0, 0) nopI)))))
def m_X8_trimMoment : MI := (yX8_trimMoment, cX8_trimMoment, 2, (some .int), (2, 45, 0, 0), 24, k_X8_trimMoment)
set_option maxRecDepth 100000 in
theorem ok_X8_trimMoment : MOk m_X8_trimMoment := MOk.of (by decide +kernel) (fun _ => rfl)
theorem om_X8_trimMoment : okM m_X8_trimMoment = true := by decide +kernel
def k_X8_upright (pc : Nat) : Ins := cond (Nat.ble 79 pc) nopI (cond (Nat.ble pc 27) (cond (Nat.ble pc 11) (cond (Nat.ble pc 3) (cond (Nat.ble pc 0) (cond (Nat.beq pc 0) (.iload_n 1, 1, 1, 0, 1, 0) nopI) (cond (Nat.ble pc 1) (cond (Nat.beq pc 1) (.iconst 1, 1, 2, 1, 0, 0) nopI) (cond (Nat.beq pc 2) (.bipush 100, 2, 4, 100, 0, 0) nopI))) (cond (Nat.ble pc 9) (cond (Nat.ble pc 6) (cond (Nat.beq pc 4) (.invokestatic 34, 3, 7, 0, 0, 0) nopI) (cond (Nat.beq pc 7) (.ifCond .eq 12, 3, 10, 0, 19, 0) nopI)) (cond (Nat.ble pc 10) (cond (Nat.beq pc 10) (.iload_n 2, 1, 11, 0, 2, 0) nopI) (cond (Nat.beq pc 11) (.iconst 0, 1, 12, 0, 0, 0) nopI)))) (cond (Nat.ble pc 21) (cond (Nat.ble pc 15) (cond (Nat.ble pc 12) (cond (Nat.beq pc 12) (.iconst 2, 1, 13, 2, 0, 0) nopI) (cond (Nat.beq pc 13) (.invokestatic 34, 3, 16, 0, 0, 0) nopI)) (cond (Nat.ble pc 18) (cond (Nat.beq pc 16) (.ifCond .ne 7, 3, 19, 0, 23, 0) nopI) (cond (Nat.beq pc 19) (.sipush (-1002), 3, 22, -1002, 0, 0) nopI))) (cond (Nat.ble pc 25) (cond (Nat.ble pc 22) (cond (Nat.beq pc 22) (.ireturn, 1, 23, 0, 0, 0) nopI) (cond (Nat.beq pc 23) (.new 166, 3, 26, 0, 3, 0) nopI)) (cond (Nat.ble pc 26) (cond (Nat.beq pc 26) (.dup, 1, 27, 0, 0, 0) nopI) (cond (Nat.beq pc 27) (.aload_n 0, 1, 28, 0, 0, 0) nopI))))) (cond (Nat.ble pc 64) (cond (Nat.ble pc 34) (cond (Nat.ble pc 30) (cond (Nat.beq pc 28) (.getfield 10, 3, 31, 0, 4, 0) nopI) (cond (Nat.ble pc 31) (cond (Nat.beq pc 31) (.iload_n 1, 1, 32, 0, 1, 0) nopI) (cond (Nat.beq pc 32) (.invokespecial 168, 3, 35, 0, 0, 0) nopI))) (cond (Nat.ble pc 36) (cond (Nat.ble pc 35) (cond (Nat.beq pc 35) (.astore_n 3, 1, 36, 0, 3, 0) nopI) (cond (Nat.beq pc 36) (.iload_n 2, 1, 37, 0, 2, 0) nopI)) (cond (Nat.ble pc 63) (cond (Nat.beq pc 37) (.lookupswitch 37 #[(0, 27), (1, 32)], 27, 64, 0, 0, 0) nopI) (cond (Nat.beq pc 64) (.aload_n 3, 1, 65, 0, 3, 0) nopI)))) (cond (Nat.ble pc 72) (cond (Nat.ble pc 68) (cond (Nat.ble pc 67) (cond (Nat.beq pc 65) (.getfield 170, 3, 68, 0, 3, 0) nopI) (cond (Nat.beq pc 68) (.ireturn, 1, 69, 0, 0, 0) nopI)) (cond (Nat.ble pc 69) (cond (Nat.beq pc 69) (.aload_n 3, 1, 70, 0, 3, 0) nopI) (cond (Nat.beq pc 70) (.getfield 174, 3, 73, 0, 3, 1) nopI))) (cond (Nat.ble pc 74) (cond (Nat.ble pc 73) (cond (Nat.beq pc 73) (.ireturn, 1, 74, 0, 0, 0) nopI) (cond (Nat.beq pc 74) (.aload_n 3, 1, 75, 0, 3, 0) nopI)) (cond (Nat.ble pc 77) (cond (Nat.beq pc 75) (.getfield 176, 3, 78, 0, 3, 2) nopI) (cond (Nat.beq pc 78) (.ireturn, 1, 79, 0, 0, 0) nopI))))))
def m_X8_upright : MI := (yX8_upright, cX8_upright, 4, (some .int), (3, 72, 1, 3), 79, k_X8_upright)
set_option maxRecDepth 100000 in
theorem ok_X8_upright : MOk m_X8_upright := MOk.of (by decide +kernel) (fun _ => rfl)
theorem om_X8_upright : okM m_X8_upright = true := by decide +kernel
def k_X8_count (pc : Nat) : Ins := cond (Nat.ble 309 pc) nopI (cond (Nat.ble pc 199) (cond (Nat.ble pc 144) (cond (Nat.ble pc 119) (cond (Nat.ble pc 107) (cond (Nat.ble pc 100) (cond (Nat.ble pc 0) (cond (Nat.beq pc 0) (.iload_n 1, 1, 1, 0, 1, 0) nopI) (cond (Nat.ble pc 99) (cond (Nat.beq pc 1) (.tableswitch 304 0 20 #[99, 107, 115, 123, 134, 143, 151, 162, 173, 184, 195, 203, 214, 225, 236, 244, 255, 266, 277, 288, 296], 99, 100, 0, 0, 0) nopI) (cond (Nat.beq pc 100) (.aload_n 0, 1, 101, 0, 0, 0) nopI))) (cond (Nat.ble pc 103) (cond (Nat.beq pc 101) (.getfield 10, 3, 104, 0, 4, 0) nopI) (cond (Nat.ble pc 106) (cond (Nat.beq pc 104) (.invokevirtual 42, 3, 107, 0, 0, 0) nopI) (cond (Nat.beq pc 107) (.ireturn, 1, 108, 0, 0, 0) nopI)))) (cond (Nat.ble pc 114) (cond (Nat.ble pc 108) (cond (Nat.beq pc 108) (.aload_n 0, 1, 109, 0, 0, 0) nopI) (cond (Nat.ble pc 111) (cond (Nat.beq pc 109) (.getfield 10, 3, 112, 0, 4, 0) nopI) (cond (Nat.beq pc 112) (.invokevirtual 178, 3, 115, 0, 0, 0) nopI))) (cond (Nat.ble pc 115) (cond (Nat.beq pc 115) (.ireturn, 1, 116, 0, 0, 0) nopI) (cond (Nat.ble pc 116) (cond (Nat.beq pc 116) (.aload_n 0, 1, 117, 0, 0, 0) nopI) (cond (Nat.beq pc 117) (.getfield 10, 3, 120, 0, 4, 0) nopI))))) (cond (Nat.ble pc 133) (cond (Nat.ble pc 124) (cond (Nat.ble pc 122) (cond (Nat.beq pc 120) (.invokevirtual 105, 3, 123, 0, 0, 0) nopI) (cond (Nat.ble pc 123) (cond (Nat.beq pc 123) (.ireturn, 1, 124, 0, 0, 0) nopI) (cond (Nat.beq pc 124) (.aload_n 0, 1, 125, 0, 0, 0) nopI))) (cond (Nat.ble pc 127) (cond (Nat.beq pc 125) (.getfield 10, 3, 128, 0, 4, 0) nopI) (cond (Nat.ble pc 130) (cond (Nat.beq pc 128) (.invokevirtual 42, 3, 131, 0, 0, 0) nopI) (cond (Nat.beq pc 131) (.invokestatic 46, 3, 134, 0, 0, 0) nopI)))) (cond (Nat.ble pc 138) (cond (Nat.ble pc 134) (cond (Nat.beq pc 134) (.ireturn, 1, 135, 0, 0, 0) nopI) (cond (Nat.ble pc 135) (cond (Nat.beq pc 135) (.aload_n 0, 1, 136, 0, 0, 0) nopI) (cond (Nat.beq pc 136) (.getfield 10, 3, 139, 0, 4, 0) nopI))) (cond (Nat.ble pc 142) (cond (Nat.ble pc 139) (cond (Nat.beq pc 139) (.iconst 0, 1, 140, 0, 0, 0) nopI) (cond (Nat.beq pc 140) (.invokevirtual 163, 3, 143, 0, 0, 0) nopI)) (cond (Nat.ble pc 143) (cond (Nat.beq pc 143) (.ireturn, 1, 144, 0, 0, 0) nopI) (cond (Nat.beq pc 144) (.aload_n 0, 1, 145, 0, 0, 0) nopI)))))) (cond (Nat.ble pc 172) (cond (Nat.ble pc 158) (cond (Nat.ble pc 151) (cond (Nat.ble pc 147) (cond (Nat.beq pc 145) (.getfield 10, 3, 148, 0, 4, 0) nopI) (cond (Nat.ble pc 150) (cond (Nat.beq pc 148) (.invokevirtual 181, 3, 151, 0, 0, 0) nopI) (cond (Nat.beq pc 151) (.ireturn, 1, 152, 0, 0, 0) nopI))) (cond (Nat.ble pc 152) (cond (Nat.beq pc 152) (.aload_n 0, 1, 153, 0, 0, 0) nopI) (cond (Nat.ble pc 155) (cond (Nat.beq pc 153) (.getfield 10, 3, 156, 0, 4, 0) nopI) (cond (Nat.beq pc 156) (.sipush 255, 3, 159, 255, 0, 0) nopI)))) (cond (Nat.ble pc 163) (cond (Nat.ble pc 161) (cond (Nat.beq pc 159) (.invokevirtual 156, 3, 162, 0, 0, 0) nopI) (cond (Nat.ble pc 162) (cond (Nat.beq pc 162) (.ireturn, 1, 163, 0, 0, 0) nopI) (cond (Nat.beq pc 163) (.aload_n 0, 1, 164, 0, 0, 0) nopI))) (cond (Nat.ble pc 166) (cond (Nat.beq pc 164) (.getfield 10, 3, 167, 0, 4, 0) nopI) (cond (Nat.ble pc 169) (cond (Nat.beq pc 167) (.sipush 156, 3, 170, 156, 0, 0) nopI) (cond (Nat.beq pc 170) (.invokevirtual 38, 3, 173, 0, 0, 0) nopI))))) (cond (Nat.ble pc 184) (cond (Nat.ble pc 177) (cond (Nat.ble pc 173) (cond (Nat.beq pc 173) (.ireturn, 1, 174, 0, 0, 0) nopI) (cond (Nat.ble pc 174) (cond (Nat.beq pc 174) (.aload_n 0, 1, 175, 0, 0, 0) nopI) (cond (Nat.beq pc 175) (.getfield 10, 3, 178, 0, 4, 0) nopI))) (cond (Nat.ble pc 180) (cond (Nat.beq pc 178) (.sipush 157, 3, 181, 157, 0, 0) nopI) (cond (Nat.ble pc 183) (cond (Nat.beq pc 181) (.invokevirtual 38, 3, 184, 0, 0, 0) nopI) (cond (Nat.beq pc 184) (.ireturn, 1, 185, 0, 0, 0) nopI)))) (cond (Nat.ble pc 191) (cond (Nat.ble pc 185) (cond (Nat.beq pc 185) (.aload_n 0, 1, 186, 0, 0, 0) nopI) (cond (Nat.ble pc 188) (cond (Nat.beq pc 186) (.getfield 10, 3, 189, 0, 4, 0) nopI) (cond (Nat.beq pc 189) (.sipush 158, 3, 192, 158, 0, 0) nopI))) (cond (Nat.ble pc 195) (cond (Nat.ble pc 194) (cond (Nat.beq pc 192) (.invokevirtual 38, 3, 195, 0, 0, 0) nopI) (cond (Nat.beq pc 195) (.ireturn, 1, 196, 0, 0, 0) nopI)) (cond (Nat.ble pc 196) (cond (Nat.beq pc 196) (.aload_n 0, 1, 197, 0, 0, 0) nopI) (cond (Nat.beq pc 197) (.getfield 10, 3, 200, 0, 4, 0) nopI))))))) (cond (Nat.ble pc 254) (cond (Nat.ble pc 225) (cond (Nat.ble pc 213) (cond (Nat.ble pc 204) (cond (Nat.ble pc 202) (cond (Nat.beq pc 200) (.invokevirtual 184, 3, 203, 0, 0, 0) nopI) (cond (Nat.ble pc 203) (cond (Nat.beq pc 203) (.ireturn, 1, 204, 0, 0, 0) nopI) (cond (Nat.beq pc 204) (.aload_n 0, 1, 205, 0, 0, 0) nopI))) (cond (Nat.ble pc 207) (cond (Nat.beq pc 205) (.getfield 10, 3, 208, 0, 4, 0) nopI) (cond (Nat.ble pc 210) (cond (Nat.beq pc 208) (.sipush 159, 3, 211, 159, 0, 0) nopI) (cond (Nat.beq pc 211) (.invokevirtual 38, 3, 214, 0, 0, 0) nopI)))) (cond (Nat.ble pc 218) (cond (Nat.ble pc 214) (cond (Nat.beq pc 214) (.ireturn, 1, 215, 0, 0, 0) nopI) (cond (Nat.ble pc 215) (cond (Nat.beq pc 215) (.aload_n 0, 1, 216, 0, 0, 0) nopI) (cond (Nat.beq pc 216) (.getfield 10, 3, 219, 0, 4, 0) nopI))) (cond (Nat.ble pc 221) (cond (Nat.beq pc 219) (.sipush 155, 3, 222, 155, 0, 0) nopI) (cond (Nat.ble pc 224) (cond (Nat.beq pc 222) (.invokevirtual 38, 3, 225, 0, 0, 0) nopI) (cond (Nat.beq pc 225) (.ireturn, 1, 226, 0, 0, 0) nopI))))) (cond (Nat.ble pc 237) (cond (Nat.ble pc 232) (cond (Nat.ble pc 226) (cond (Nat.beq pc 226) (.aload_n 0, 1, 227, 0, 0, 0) nopI) (cond (Nat.ble pc 229) (cond (Nat.beq pc 227) (.getfield 10, 3, 230, 0, 4, 0) nopI) (cond (Nat.beq pc 230) (.sipush 160, 3, 233, 160, 0, 0) nopI))) (cond (Nat.ble pc 235) (cond (Nat.beq pc 233) (.invokevirtual 38, 3, 236, 0, 0, 0) nopI) (cond (Nat.ble pc 236) (cond (Nat.beq pc 236) (.ireturn, 1, 237, 0, 0, 0) nopI) (cond (Nat.beq pc 237) (.aload_n 0, 1, 238, 0, 0, 0) nopI)))) (cond (Nat.ble pc 244) (cond (Nat.ble pc 240) (cond (Nat.beq pc 238) (.getfield 10, 3, 241, 0, 4, 0) nopI) (cond (Nat.ble pc 243) (cond (Nat.beq pc 241) (.invokevirtual 138, 3, 244, 0, 0, 0) nopI) (cond (Nat.beq pc 244) (.ireturn, 1, 245, 0, 0, 0) nopI))) (cond (Nat.ble pc 248) (cond (Nat.ble pc 245) (cond (Nat.beq pc 245) (.aload_n 0, 1, 246, 0, 0, 0) nopI) (cond (Nat.beq pc 246) (.getfield 10, 3, 249, 0, 4, 0) nopI)) (cond (Nat.ble pc 251) (cond (Nat.beq pc 249) (.sipush 161, 3, 252, 161, 0, 0) nopI) (cond (Nat.beq pc 252) (.invokevirtual 38, 3, 255, 0, 0, 0) nopI)))))) (cond (Nat.ble pc 281) (cond (Nat.ble pc 266) (cond (Nat.ble pc 259) (cond (Nat.ble pc 255) (cond (Nat.beq pc 255) (.ireturn, 1, 256, 0, 0, 0) nopI) (cond (Nat.ble pc 256) (cond (Nat.beq pc 256) (.aload_n 0, 1, 257, 0, 0, 0) nopI) (cond (Nat.beq pc 257) (.getfield 10, 3, 260, 0, 4, 0) nopI))) (cond (Nat.ble pc 262) (cond (Nat.beq pc 260) (.sipush 128, 3, 263, 128, 0, 0) nopI) (cond (Nat.ble pc 265) (cond (Nat.beq pc 263) (.invokevirtual 38, 3, 266, 0, 0, 0) nopI) (cond (Nat.beq pc 266) (.ireturn, 1, 267, 0, 0, 0) nopI)))) (cond (Nat.ble pc 273) (cond (Nat.ble pc 267) (cond (Nat.beq pc 267) (.aload_n 0, 1, 268, 0, 0, 0) nopI) (cond (Nat.ble pc 270) (cond (Nat.beq pc 268) (.getfield 10, 3, 271, 0, 4, 0) nopI) (cond (Nat.beq pc 271) (.sipush 129, 3, 274, 129, 0, 0) nopI))) (cond (Nat.ble pc 277) (cond (Nat.ble pc 276) (cond (Nat.beq pc 274) (.invokevirtual 38, 3, 277, 0, 0, 0) nopI) (cond (Nat.beq pc 277) (.ireturn, 1, 278, 0, 0, 0) nopI)) (cond (Nat.ble pc 278) (cond (Nat.beq pc 278) (.aload_n 0, 1, 279, 0, 0, 0) nopI) (cond (Nat.beq pc 279) (.getfield 10, 3, 282, 0, 4, 0) nopI))))) (cond (Nat.ble pc 295) (cond (Nat.ble pc 288) (cond (Nat.ble pc 284) (cond (Nat.beq pc 282) (.sipush 130, 3, 285, 130, 0, 0) nopI) (cond (Nat.ble pc 287) (cond (Nat.beq pc 285) (.invokevirtual 38, 3, 288, 0, 0, 0) nopI) (cond (Nat.beq pc 288) (.ireturn, 1, 289, 0, 0, 0) nopI))) (cond (Nat.ble pc 289) (cond (Nat.beq pc 289) (.aload_n 0, 1, 290, 0, 0, 0) nopI) (cond (Nat.ble pc 292) (cond (Nat.beq pc 290) (.getfield 19, 3, 293, 0, 4, 1) nopI) (cond (Nat.beq pc 293) (.invokevirtual 123, 3, 296, 0, 0, 0) nopI)))) (cond (Nat.ble pc 300) (cond (Nat.ble pc 296) (cond (Nat.beq pc 296) (.ireturn, 1, 297, 0, 0, 0) nopI) (cond (Nat.ble pc 297) (cond (Nat.beq pc 297) (.aload_n 0, 1, 298, 0, 0, 0) nopI) (cond (Nat.beq pc 298) (.getfield 30, 3, 301, 0, 4, 4) nopI))) (cond (Nat.ble pc 304) (cond (Nat.ble pc 303) (cond (Nat.beq pc 301) (.invokevirtual 117, 3, 304, 0, 0, 0) nopI) (cond (Nat.beq pc 304) (.ireturn, 1, 305, 0, 0, 0) nopI)) (cond (Nat.ble pc 307) (cond (Nat.beq pc 305) (.sipush (-1002), 3, 308, -1002, 0, 0) nopI) (cond (Nat.beq pc 308) (.ireturn, 1, 309, 0, 0, 0) nopI))))))))
def m_X8_count : MI := (yX8_count, cX8_count, 2, (some .int), (3, 65, 0, 0), 309, k_X8_count)
set_option maxRecDepth 100000 in
theorem ok_X8_count : MOk m_X8_count := MOk.of (by decide +kernel) (fun _ => rfl)
theorem om_X8_count : okM m_X8_count = true := by decide +kernel
end
section
/-! ===== the instructions of the methods, by program ===== -/
def k_L_cell (pc : Nat) : Ins := cond (Nat.ble 25 pc) nopI (cond (Nat.ble pc 14) (cond (Nat.ble pc 5) (cond (Nat.ble pc 1) (cond (Nat.ble pc 0) (cond (Nat.beq pc 0) (.iload_n 1, 1, 1, 0, 1, 0) nopI) (cond (Nat.beq pc 1) (.aload_n 0, 1, 2, 0, 0, 0) nopI)) (cond (Nat.ble pc 2) (cond (Nat.beq pc 2) (.arraylength, 1, 3, 0, 0, 0) nopI) (cond (Nat.beq pc 3) (.if_icmp .ge 9, 3, 6, 0, 12, 0) nopI))) (cond (Nat.ble pc 7) (cond (Nat.ble pc 6) (cond (Nat.beq pc 6) (.aload_n 0, 1, 7, 0, 0, 0) nopI) (cond (Nat.beq pc 7) (.iload_n 1, 1, 8, 0, 1, 0) nopI)) (cond (Nat.ble pc 8) (cond (Nat.beq pc 8) (.iaload, 1, 9, 0, 0, 0) nopI) (cond (Nat.ble pc 11) (cond (Nat.beq pc 9) (.goto 15, 3, 12, 0, 24, 0) nopI) (cond (Nat.beq pc 12) (.sipush 7919, 3, 15, 7919, 0, 0) nopI))))) (cond (Nat.ble pc 18) (cond (Nat.ble pc 16) (cond (Nat.ble pc 15) (cond (Nat.beq pc 15) (.iload_n 1, 1, 16, 0, 1, 0) nopI) (cond (Nat.beq pc 16) (.iconst 3, 1, 17, 3, 0, 0) nopI)) (cond (Nat.ble pc 17) (cond (Nat.beq pc 17) (.iadd, 1, 18, 0, 0, 0) nopI) (cond (Nat.beq pc 18) (.imul, 1, 19, 0, 0, 0) nopI))) (cond (Nat.ble pc 21) (cond (Nat.ble pc 19) (cond (Nat.beq pc 19) (.iload_n 1, 1, 20, 0, 1, 0) nopI) (cond (Nat.beq pc 20) (.bipush 11, 2, 22, 11, 0, 0) nopI)) (cond (Nat.ble pc 22) (cond (Nat.beq pc 22) (.iadd, 1, 23, 0, 0, 0) nopI) (cond (Nat.ble pc 23) (cond (Nat.beq pc 23) (.imul, 1, 24, 0, 0, 0) nopI) (cond (Nat.beq pc 24) (.ireturn, 1, 25, 0, 0, 0) nopI))))))
def m_L_cell : MI := (yL_cell, cL_cell, 2, (some .int), (0, 0, 0, 0), 25, k_L_cell)
set_option maxRecDepth 100000 in
theorem ok_L_cell : MOk m_L_cell := MOk.of (by decide +kernel) (fun _ => rfl)
theorem om_L_cell : okM m_L_cell = true := by decide +kernel
def k_L_low (pc : Nat) : Ins := cond (Nat.ble 7 pc) nopI (cond (Nat.ble pc 3) (cond (Nat.ble pc 0) (cond (Nat.beq pc 0) (.iload_n 0, 1, 1, 0, 0, 0) nopI) (cond (Nat.ble pc 2) (cond (Nat.beq pc 1) (.ldc 7, 2, 3, 2147483647, 7, 0) nopI) (cond (Nat.beq pc 3) (.iand, 1, 4, 0, 0, 0) nopI))) (cond (Nat.ble pc 4) (cond (Nat.beq pc 4) (.iload_n 1, 1, 5, 0, 1, 0) nopI) (cond (Nat.ble pc 5) (cond (Nat.beq pc 5) (.irem, 1, 6, 0, 0, 0) nopI) (cond (Nat.beq pc 6) (.ireturn, 1, 7, 0, 0, 0) nopI))))
def m_L_low : MI := (yL_low, cL_low, 2, (some .int), (0, 0, 0, 0), 7, k_L_low)
set_option maxRecDepth 100000 in
theorem ok_L_low : MOk m_L_low := MOk.of (by decide +kernel) (fun _ => rfl)
theorem om_L_low : okM m_L_low = true := by decide +kernel
def k_L_size (pc : Nat) : Ins := cond (Nat.ble 11 pc) nopI (cond (Nat.ble pc 4) (cond (Nat.ble pc 0) (cond (Nat.beq pc 0) (.iload_n 0, 1, 1, 0, 0, 0) nopI) (cond (Nat.ble pc 3) (cond (Nat.beq pc 1) (.ifCond .ge 8, 3, 4, 0, 9, 0) nopI) (cond (Nat.beq pc 4) (.iload_n 0, 1, 5, 0, 0, 0) nopI))) (cond (Nat.ble pc 8) (cond (Nat.ble pc 5) (cond (Nat.beq pc 5) (.ineg, 1, 6, 0, 0, 0) nopI) (cond (Nat.beq pc 6) (.goto 4, 3, 9, 0, 10, 0) nopI)) (cond (Nat.ble pc 9) (cond (Nat.beq pc 9) (.iload_n 0, 1, 10, 0, 0, 0) nopI) (cond (Nat.beq pc 10) (.ireturn, 1, 11, 0, 0, 0) nopI))))
def m_L_size : MI := (yL_size, cL_size, 1, (some .int), (0, 0, 0, 0), 11, k_L_size)
set_option maxRecDepth 100000 in
theorem ok_L_size : MOk m_L_size := MOk.of (by decide +kernel) (fun _ => rfl)
theorem om_L_size : okM m_L_size = true := by decide +kernel
def k_L_does (pc : Nat) : Ins := cond (Nat.ble 346 pc) nopI (cond (Nat.ble pc 209) (cond (Nat.ble pc 135) (cond (Nat.ble pc 100) (cond (Nat.ble pc 80) (cond (Nat.ble pc 72) (cond (Nat.ble pc 2) (cond (Nat.ble pc 0) (cond (Nat.beq pc 0) (.iload_n 1, 1, 1, 0, 1, 0) nopI) (cond (Nat.beq pc 1) (.bipush 15, 2, 3, 15, 0, 0) nopI)) (cond (Nat.ble pc 3) (cond (Nat.beq pc 3) (.iand, 1, 4, 0, 0, 0) nopI) (cond (Nat.ble pc 71) (cond (Nat.beq pc 4) (.tableswitch 327 0 12 #[68, 101, 123, 147, 210, 210, 223, 236, 236, 261, 299, 299, 314], 68, 72, 0, 0, 0) nopI) (cond (Nat.beq pc 72) (.aload_n 0, 1, 73, 0, 0, 0) nopI)))) (cond (Nat.ble pc 75) (cond (Nat.ble pc 73) (cond (Nat.beq pc 73) (.iload_n 1, 1, 74, 0, 1, 0) nopI) (cond (Nat.ble pc 74) (cond (Nat.beq pc 74) (.iconst 4, 1, 75, 4, 0, 0) nopI) (cond (Nat.beq pc 75) (.ishr, 1, 76, 0, 0, 0) nopI))) (cond (Nat.ble pc 76) (cond (Nat.beq pc 76) (.iconst 3, 1, 77, 3, 0, 0) nopI) (cond (Nat.ble pc 79) (cond (Nat.beq pc 77) (.invokestatic 8, 3, 80, 0, 0, 0) nopI) (cond (Nat.beq pc 80) (.iload_n 1, 1, 81, 0, 1, 0) nopI))))) (cond (Nat.ble pc 90) (cond (Nat.ble pc 83) (cond (Nat.ble pc 82) (cond (Nat.beq pc 81) (.bipush 6, 2, 83, 6, 0, 0) nopI) (cond (Nat.beq pc 83) (.ishr, 1, 84, 0, 0, 0) nopI)) (cond (Nat.ble pc 86) (cond (Nat.beq pc 84) (.sipush 301, 3, 87, 301, 0, 0) nopI) (cond (Nat.ble pc 89) (cond (Nat.beq pc 87) (.invokestatic 8, 3, 90, 0, 0, 0) nopI) (cond (Nat.beq pc 90) (.iload_n 1, 1, 91, 0, 1, 0) nopI)))) (cond (Nat.ble pc 95) (cond (Nat.ble pc 92) (cond (Nat.beq pc 91) (.bipush 15, 2, 93, 15, 0, 0) nopI) (cond (Nat.ble pc 93) (cond (Nat.beq pc 93) (.ishr, 1, 94, 0, 0, 0) nopI) (cond (Nat.beq pc 94) (.bipush 7, 2, 96, 7, 0, 0) nopI))) (cond (Nat.ble pc 98) (cond (Nat.beq pc 96) (.invokestatic 8, 3, 99, 0, 0, 0) nopI) (cond (Nat.ble pc 99) (cond (Nat.beq pc 99) (.iconst 3, 1, 100, 3, 0, 0) nopI) (cond (Nat.beq pc 100) (.isub, 1, 101, 0, 0, 0) nopI)))))) (cond (Nat.ble pc 117) (cond (Nat.ble pc 107) (cond (Nat.ble pc 104) (cond (Nat.ble pc 103) (cond (Nat.beq pc 101) (.invokevirtual 14, 3, 104, 0, 0, 0) nopI) (cond (Nat.beq pc 104) (.ireturn, 1, 105, 0, 0, 0) nopI)) (cond (Nat.ble pc 105) (cond (Nat.beq pc 105) (.aload_n 0, 1, 106, 0, 0, 0) nopI) (cond (Nat.ble pc 106) (cond (Nat.beq pc 106) (.iload_n 1, 1, 107, 0, 1, 0) nopI) (cond (Nat.beq pc 107) (.iconst 4, 1, 108, 4, 0, 0) nopI)))) (cond (Nat.ble pc 113) (cond (Nat.ble pc 108) (cond (Nat.beq pc 108) (.ishr, 1, 109, 0, 0, 0) nopI) (cond (Nat.ble pc 110) (cond (Nat.beq pc 109) (.bipush 8, 2, 111, 8, 0, 0) nopI) (cond (Nat.beq pc 111) (.invokestatic 8, 3, 114, 0, 0, 0) nopI))) (cond (Nat.ble pc 114) (cond (Nat.beq pc 114) (.iload_n 1, 1, 115, 0, 1, 0) nopI) (cond (Nat.ble pc 116) (cond (Nat.beq pc 115) (.bipush 7, 2, 117, 7, 0, 0) nopI) (cond (Nat.beq pc 117) (.ishr, 1, 118, 0, 0, 0) nopI))))) (cond (Nat.ble pc 127) (cond (Nat.ble pc 122) (cond (Nat.ble pc 119) (cond (Nat.beq pc 118) (.bipush 10, 2, 120, 10, 0, 0) nopI) (cond (Nat.beq pc 120) (.invokestatic 8, 3, 123, 0, 0, 0) nopI)) (cond (Nat.ble pc 125) (cond (Nat.beq pc 123) (.invokevirtual 20, 3, 126, 0, 0, 0) nopI) (cond (Nat.ble pc 126) (cond (Nat.beq pc 126) (.ireturn, 1, 127, 0, 0, 0) nopI) (cond (Nat.beq pc 127) (.aload_n 0, 1, 128, 0, 0, 0) nopI)))) (cond (Nat.ble pc 130) (cond (Nat.ble pc 128) (cond (Nat.beq pc 128) (.iload_n 1, 1, 129, 0, 1, 0) nopI) (cond (Nat.ble pc 129) (cond (Nat.beq pc 129) (.iconst 4, 1, 130, 4, 0, 0) nopI) (cond (Nat.beq pc 130) (.ishr, 1, 131, 0, 0, 0) nopI))) (cond (Nat.ble pc 131) (cond (Nat.beq pc 131) (.iconst 5, 1, 132, 5, 0, 0) nopI) (cond (Nat.ble pc 134) (cond (Nat.beq pc 132) (.invokestatic 8, 3, 135, 0, 0, 0) nopI) (cond (Nat.beq pc 135) (.iconst 1, 1, 136, 1, 0, 0) nopI))))))) (cond (Nat.ble pc 169) (cond (Nat.ble pc 153) (cond (Nat.ble pc 145) (cond (Nat.ble pc 138) (cond (Nat.ble pc 136) (cond (Nat.beq pc 136) (.iload_n 1, 1, 137, 0, 1, 0) nopI) (cond (Nat.beq pc 137) (.bipush 7, 2, 139, 7, 0, 0) nopI)) (cond (Nat.ble pc 139) (cond (Nat.beq pc 139) (.ishr, 1, 140, 0, 0, 0) nopI) (cond (Nat.ble pc 142) (cond (Nat.beq pc 140) (.sipush 255, 3, 143, 255, 0, 0) nopI) (cond (Nat.beq pc 143) (.invokestatic 8, 3, 146, 0, 0, 0) nopI)))) (cond (Nat.ble pc 150) (cond (Nat.ble pc 146) (cond (Nat.beq pc 146) (.iadd, 1, 147, 0, 0, 0) nopI) (cond (Nat.ble pc 149) (cond (Nat.beq pc 147) (.invokevirtual 23, 3, 150, 0, 0, 0) nopI) (cond (Nat.beq pc 150) (.ireturn, 1, 151, 0, 0, 0) nopI))) (cond (Nat.ble pc 151) (cond (Nat.beq pc 151) (.iload_n 1, 1, 152, 0, 1, 0) nopI) (cond (Nat.ble pc 152) (cond (Nat.beq pc 152) (.iconst 4, 1, 153, 4, 0, 0) nopI) (cond (Nat.beq pc 153) (.ishr, 1, 154, 0, 0, 0) nopI))))) (cond (Nat.ble pc 160) (cond (Nat.ble pc 157) (cond (Nat.ble pc 154) (cond (Nat.beq pc 154) (.iconst 3, 1, 155, 3, 0, 0) nopI) (cond (Nat.beq pc 155) (.invokestatic 8, 3, 158, 0, 0, 0) nopI)) (cond (Nat.ble pc 158) (cond (Nat.beq pc 158) (.istore_n 2, 1, 159, 0, 2, 0) nopI) (cond (Nat.ble pc 159) (cond (Nat.beq pc 159) (.aload_n 0, 1, 160, 0, 0, 0) nopI) (cond (Nat.beq pc 160) (.iload_n 2, 1, 161, 0, 2, 0) nopI)))) (cond (Nat.ble pc 165) (cond (Nat.ble pc 161) (cond (Nat.beq pc 161) (.iload_n 2, 1, 162, 0, 2, 0) nopI) (cond (Nat.ble pc 164) (cond (Nat.beq pc 162) (.ifCond .ne 17, 3, 165, 0, 179, 0) nopI) (cond (Nat.beq pc 165) (.iconst 1, 1, 166, 1, 0, 0) nopI))) (cond (Nat.ble pc 166) (cond (Nat.beq pc 166) (.iload_n 1, 1, 167, 0, 1, 0) nopI) (cond (Nat.ble pc 168) (cond (Nat.beq pc 167) (.bipush 6, 2, 169, 6, 0, 0) nopI) (cond (Nat.beq pc 169) (.ishr, 1, 170, 0, 0, 0) nopI)))))) (cond (Nat.ble pc 188) (cond (Nat.ble pc 179) (cond (Nat.ble pc 174) (cond (Nat.ble pc 171) (cond (Nat.beq pc 170) (.bipush 9, 2, 172, 9, 0, 0) nopI) (cond (Nat.beq pc 172) (.invokestatic 8, 3, 175, 0, 0, 0) nopI)) (cond (Nat.ble pc 175) (cond (Nat.beq pc 175) (.iadd, 1, 176, 0, 0, 0) nopI) (cond (Nat.ble pc 178) (cond (Nat.beq pc 176) (.goto 34, 3, 179, 0, 210, 0) nopI) (cond (Nat.beq pc 179) (.iload_n 2, 1, 180, 0, 2, 0) nopI)))) (cond (Nat.ble pc 184) (cond (Nat.ble pc 180) (cond (Nat.beq pc 180) (.iconst 1, 1, 181, 1, 0, 0) nopI) (cond (Nat.ble pc 183) (cond (Nat.beq pc 181) (.if_icmp .ne 17, 3, 184, 0, 198, 0) nopI) (cond (Nat.beq pc 184) (.iconst 2, 1, 185, 2, 0, 0) nopI))) (cond (Nat.ble pc 185) (cond (Nat.beq pc 185) (.iload_n 1, 1, 186, 0, 1, 0) nopI) (cond (Nat.ble pc 187) (cond (Nat.beq pc 186) (.bipush 6, 2, 188, 6, 0, 0) nopI) (cond (Nat.beq pc 188) (.ishr, 1, 189, 0, 0, 0) nopI))))) (cond (Nat.ble pc 199) (cond (Nat.ble pc 193) (cond (Nat.ble pc 190) (cond (Nat.beq pc 189) (.bipush 30, 2, 191, 30, 0, 0) nopI) (cond (Nat.beq pc 191) (.invokestatic 8, 3, 194, 0, 0, 0) nopI)) (cond (Nat.ble pc 194) (cond (Nat.beq pc 194) (.iadd, 1, 195, 0, 0, 0) nopI) (cond (Nat.ble pc 197) (cond (Nat.beq pc 195) (.goto 15, 3, 198, 0, 210, 0) nopI) (cond (Nat.beq pc 198) (.bipush 60, 2, 200, 60, 0, 0) nopI)))) (cond (Nat.ble pc 203) (cond (Nat.ble pc 200) (cond (Nat.beq pc 200) (.iload_n 1, 1, 201, 0, 1, 0) nopI) (cond (Nat.ble pc 202) (cond (Nat.beq pc 201) (.bipush 6, 2, 203, 6, 0, 0) nopI) (cond (Nat.beq pc 203) (.ishr, 1, 204, 0, 0, 0) nopI))) (cond (Nat.ble pc 205) (cond (Nat.beq pc 204) (.bipush 90, 2, 206, 90, 0, 0) nopI) (cond (Nat.ble pc 208) (cond (Nat.beq pc 206) (.invokestatic 8, 3, 209, 0, 0, 0) nopI) (cond (Nat.beq pc 209) (.iadd, 1, 210, 0, 0, 0) nopI)))))))) (cond (Nat.ble pc 273) (cond (Nat.ble pc 241) (cond (Nat.ble pc 226) (cond (Nat.ble pc 216) (cond (Nat.ble pc 213) (cond (Nat.ble pc 212) (cond (Nat.beq pc 210) (.invokevirtual 26, 3, 213, 0, 0, 0) nopI) (cond (Nat.beq pc 213) (.ireturn, 1, 214, 0, 0, 0) nopI)) (cond (Nat.ble pc 214) (cond (Nat.beq pc 214) (.aload_n 0, 1, 215, 0, 0, 0) nopI) (cond (Nat.ble pc 215) (cond (Nat.beq pc 215) (.iconst 0, 1, 216, 0, 0, 0) nopI) (cond (Nat.beq pc 216) (.iload_n 1, 1, 217, 0, 1, 0) nopI)))) (cond (Nat.ble pc 219) (cond (Nat.ble pc 217) (cond (Nat.beq pc 217) (.iconst 4, 1, 218, 4, 0, 0) nopI) (cond (Nat.ble pc 218) (cond (Nat.beq pc 218) (.ishr, 1, 219, 0, 0, 0) nopI) (cond (Nat.beq pc 219) (.iconst 5, 1, 220, 5, 0, 0) nopI))) (cond (Nat.ble pc 222) (cond (Nat.beq pc 220) (.invokestatic 8, 3, 223, 0, 0, 0) nopI) (cond (Nat.ble pc 225) (cond (Nat.beq pc 223) (.invokevirtual 29, 3, 226, 0, 0, 0) nopI) (cond (Nat.beq pc 226) (.ireturn, 1, 227, 0, 0, 0) nopI))))) (cond (Nat.ble pc 231) (cond (Nat.ble pc 228) (cond (Nat.ble pc 227) (cond (Nat.beq pc 227) (.aload_n 0, 1, 228, 0, 0, 0) nopI) (cond (Nat.beq pc 228) (.iconst 1, 1, 229, 1, 0, 0) nopI)) (cond (Nat.ble pc 229) (cond (Nat.beq pc 229) (.iload_n 1, 1, 230, 0, 1, 0) nopI) (cond (Nat.ble pc 230) (cond (Nat.beq pc 230) (.iconst 4, 1, 231, 4, 0, 0) nopI) (cond (Nat.beq pc 231) (.ishr, 1, 232, 0, 0, 0) nopI)))) (cond (Nat.ble pc 238) (cond (Nat.ble pc 232) (cond (Nat.beq pc 232) (.iconst 5, 1, 233, 5, 0, 0) nopI) (cond (Nat.ble pc 235) (cond (Nat.beq pc 233) (.invokestatic 8, 3, 236, 0, 0, 0) nopI) (cond (Nat.beq pc 236) (.invokevirtual 29, 3, 239, 0, 0, 0) nopI))) (cond (Nat.ble pc 239) (cond (Nat.beq pc 239) (.ireturn, 1, 240, 0, 0, 0) nopI) (cond (Nat.ble pc 240) (cond (Nat.beq pc 240) (.aload_n 0, 1, 241, 0, 0, 0) nopI) (cond (Nat.beq pc 241) (.iconst 2, 1, 242, 2, 0, 0) nopI)))))) (cond (Nat.ble pc 256) (cond (Nat.ble pc 248) (cond (Nat.ble pc 243) (cond (Nat.ble pc 242) (cond (Nat.beq pc 242) (.iload_n 1, 1, 243, 0, 1, 0) nopI) (cond (Nat.beq pc 243) (.iconst 4, 1, 244, 4, 0, 0) nopI)) (cond (Nat.ble pc 244) (cond (Nat.beq pc 244) (.ishr, 1, 245, 0, 0, 0) nopI) (cond (Nat.ble pc 245) (cond (Nat.beq pc 245) (.iconst 3, 1, 246, 3, 0, 0) nopI) (cond (Nat.beq pc 246) (.invokestatic 8, 3, 249, 0, 0, 0) nopI)))) (cond (Nat.ble pc 251) (cond (Nat.ble pc 249) (cond (Nat.beq pc 249) (.iadd, 1, 250, 0, 0, 0) nopI) (cond (Nat.ble pc 250) (cond (Nat.beq pc 250) (.iconst 1, 1, 251, 1, 0, 0) nopI) (cond (Nat.beq pc 251) (.iload_n 1, 1, 252, 0, 1, 0) nopI))) (cond (Nat.ble pc 253) (cond (Nat.beq pc 252) (.bipush 6, 2, 254, 6, 0, 0) nopI) (cond (Nat.ble pc 254) (cond (Nat.beq pc 254) (.ishr, 1, 255, 0, 0, 0) nopI) (cond (Nat.beq pc 255) (.bipush 30, 2, 257, 30, 0, 0) nopI))))) (cond (Nat.ble pc 265) (cond (Nat.ble pc 260) (cond (Nat.ble pc 259) (cond (Nat.beq pc 257) (.invokestatic 8, 3, 260, 0, 0, 0) nopI) (cond (Nat.beq pc 260) (.iadd, 1, 261, 0, 0, 0) nopI)) (cond (Nat.ble pc 263) (cond (Nat.beq pc 261) (.invokevirtual 29, 3, 264, 0, 0, 0) nopI) (cond (Nat.ble pc 264) (cond (Nat.beq pc 264) (.ireturn, 1, 265, 0, 0, 0) nopI) (cond (Nat.beq pc 265) (.iload_n 1, 1, 266, 0, 1, 0) nopI)))) (cond (Nat.ble pc 268) (cond (Nat.ble pc 266) (cond (Nat.beq pc 266) (.iconst 4, 1, 267, 4, 0, 0) nopI) (cond (Nat.ble pc 267) (cond (Nat.beq pc 267) (.ishr, 1, 268, 0, 0, 0) nopI) (cond (Nat.beq pc 268) (.iconst 3, 1, 269, 3, 0, 0) nopI))) (cond (Nat.ble pc 269) (cond (Nat.beq pc 269) (.iand, 1, 270, 0, 0, 0) nopI) (cond (Nat.ble pc 272) (cond (Nat.beq pc 270) (.ifCond .ne 18, 3, 273, 0, 288, 0) nopI) (cond (Nat.beq pc 273) (.aload_n 0, 1, 274, 0, 0, 0) nopI))))))) (cond (Nat.ble pc 307) (cond (Nat.ble pc 292) (cond (Nat.ble pc 281) (cond (Nat.ble pc 276) (cond (Nat.ble pc 274) (cond (Nat.beq pc 274) (.iload_n 1, 1, 275, 0, 1, 0) nopI) (cond (Nat.beq pc 275) (.bipush 6, 2, 277, 6, 0, 0) nopI)) (cond (Nat.ble pc 277) (cond (Nat.beq pc 277) (.ishr, 1, 278, 0, 0, 0) nopI) (cond (Nat.ble pc 278) (cond (Nat.beq pc 278) (.iconst 5, 1, 279, 5, 0, 0) nopI) (cond (Nat.beq pc 279) (.invokestatic 8, 3, 282, 0, 0, 0) nopI)))) (cond (Nat.ble pc 288) (cond (Nat.ble pc 284) (cond (Nat.beq pc 282) (.invokevirtual 32, 3, 285, 0, 0, 0) nopI) (cond (Nat.ble pc 287) (cond (Nat.beq pc 285) (.goto 17, 3, 288, 0, 302, 0) nopI) (cond (Nat.beq pc 288) (.aload_n 0, 1, 289, 0, 0, 0) nopI))) (cond (Nat.ble pc 289) (cond (Nat.beq pc 289) (.iconst 1, 1, 290, 1, 0, 0) nopI) (cond (Nat.ble pc 290) (cond (Nat.beq pc 290) (.iload_n 1, 1, 291, 0, 1, 0) nopI) (cond (Nat.beq pc 291) (.bipush 6, 2, 293, 6, 0, 0) nopI))))) (cond (Nat.ble pc 301) (cond (Nat.ble pc 294) (cond (Nat.ble pc 293) (cond (Nat.beq pc 293) (.ishr, 1, 294, 0, 0, 0) nopI) (cond (Nat.beq pc 294) (.iconst 3, 1, 295, 3, 0, 0) nopI)) (cond (Nat.ble pc 297) (cond (Nat.beq pc 295) (.invokestatic 8, 3, 298, 0, 0, 0) nopI) (cond (Nat.ble pc 298) (cond (Nat.beq pc 298) (.iadd, 1, 299, 0, 0, 0) nopI) (cond (Nat.beq pc 299) (.invokevirtual 36, 3, 302, 0, 0, 0) nopI)))) (cond (Nat.ble pc 304) (cond (Nat.ble pc 302) (cond (Nat.beq pc 302) (.ireturn, 1, 303, 0, 0, 0) nopI) (cond (Nat.ble pc 303) (cond (Nat.beq pc 303) (.aload_n 0, 1, 304, 0, 0, 0) nopI) (cond (Nat.beq pc 304) (.iconst 1, 1, 305, 1, 0, 0) nopI))) (cond (Nat.ble pc 305) (cond (Nat.beq pc 305) (.iload_n 1, 1, 306, 0, 1, 0) nopI) (cond (Nat.ble pc 306) (cond (Nat.beq pc 306) (.iconst 4, 1, 307, 4, 0, 0) nopI) (cond (Nat.beq pc 307) (.ishr, 1, 308, 0, 0, 0) nopI)))))) (cond (Nat.ble pc 326) (cond (Nat.ble pc 317) (cond (Nat.ble pc 312) (cond (Nat.ble pc 309) (cond (Nat.beq pc 308) (.bipush 12, 2, 310, 12, 0, 0) nopI) (cond (Nat.beq pc 310) (.invokestatic 8, 3, 313, 0, 0, 0) nopI)) (cond (Nat.ble pc 313) (cond (Nat.beq pc 313) (.iadd, 1, 314, 0, 0, 0) nopI) (cond (Nat.ble pc 316) (cond (Nat.beq pc 314) (.invokevirtual 36, 3, 317, 0, 0, 0) nopI) (cond (Nat.beq pc 317) (.ireturn, 1, 318, 0, 0, 0) nopI)))) (cond (Nat.ble pc 320) (cond (Nat.ble pc 318) (cond (Nat.beq pc 318) (.aload_n 0, 1, 319, 0, 0, 0) nopI) (cond (Nat.ble pc 319) (cond (Nat.beq pc 319) (.iload_n 1, 1, 320, 0, 1, 0) nopI) (cond (Nat.beq pc 320) (.iconst 4, 1, 321, 4, 0, 0) nopI))) (cond (Nat.ble pc 321) (cond (Nat.beq pc 321) (.ishr, 1, 322, 0, 0, 0) nopI) (cond (Nat.ble pc 323) (cond (Nat.beq pc 322) (.bipush 8, 2, 324, 8, 0, 0) nopI) (cond (Nat.beq pc 324) (.invokestatic 8, 3, 327, 0, 0, 0) nopI))))) (cond (Nat.ble pc 334) (cond (Nat.ble pc 331) (cond (Nat.ble pc 329) (cond (Nat.beq pc 327) (.invokevirtual 39, 3, 330, 0, 0, 0) nopI) (cond (Nat.ble pc 330) (cond (Nat.beq pc 330) (.ireturn, 1, 331, 0, 0, 0) nopI) (cond (Nat.beq pc 331) (.aload_n 0, 1, 332, 0, 0, 0) nopI))) (cond (Nat.ble pc 332) (cond (Nat.beq pc 332) (.iconst 1, 1, 333, 1, 0, 0) nopI) (cond (Nat.ble pc 333) (cond (Nat.beq pc 333) (.iload_n 1, 1, 334, 0, 1, 0) nopI) (cond (Nat.beq pc 334) (.iconst 4, 1, 335, 4, 0, 0) nopI)))) (cond (Nat.ble pc 340) (cond (Nat.ble pc 335) (cond (Nat.beq pc 335) (.ishr, 1, 336, 0, 0, 0) nopI) (cond (Nat.ble pc 337) (cond (Nat.beq pc 336) (.bipush 15, 2, 338, 15, 0, 0) nopI) (cond (Nat.beq pc 338) (.invokestatic 8, 3, 341, 0, 0, 0) nopI))) (cond (Nat.ble pc 341) (cond (Nat.beq pc 341) (.iadd, 1, 342, 0, 0, 0) nopI) (cond (Nat.ble pc 344) (cond (Nat.beq pc 342) (.invokevirtual 42, 3, 345, 0, 0, 0) nopI) (cond (Nat.beq pc 345) (.ireturn, 1, 346, 0, 0, 0) nopI)))))))))
def m_L_does : MI := (yL_does, cL_does, 3, (some .int), (7, 162, 0, 0), 346, k_L_does)
set_option maxRecDepth 100000 in
theorem ok_L_does : MOk m_L_does := MOk.of (by decide +kernel) (fun _ => rfl)
theorem om_L_does : okM m_L_does = true := by decide +kernel
def k_L_isBargeSo (pc : Nat) : Ins := cond (Nat.ble 550 pc) nopI (cond (Nat.ble pc 264) (cond (Nat.ble pc 129) (cond (Nat.ble pc 59) (cond (Nat.ble pc 27) (cond (Nat.ble pc 9) (cond (Nat.ble pc 3) (cond (Nat.ble pc 1) (cond (Nat.ble pc 0) (cond (Nat.beq pc 0) (.iconst 0, 1, 1, 0, 0, 0) nopI) (cond (Nat.beq pc 1) (.istore_n 1, 1, 2, 0, 1, 0) nopI)) (cond (Nat.ble pc 2) (cond (Nat.beq pc 2) (.iconst 0, 1, 3, 0, 0, 0) nopI) (cond (Nat.beq pc 3) (.istore_n 2, 1, 4, 0, 2, 0) nopI))) (cond (Nat.ble pc 5) (cond (Nat.ble pc 4) (cond (Nat.beq pc 4) (.iconst 0, 1, 5, 0, 0, 0) nopI) (cond (Nat.beq pc 5) (.istore_n 3, 1, 6, 0, 3, 0) nopI)) (cond (Nat.ble pc 6) (cond (Nat.beq pc 6) (.iconst 0, 1, 7, 0, 0, 0) nopI) (cond (Nat.ble pc 8) (cond (Nat.beq pc 7) (.istore 4, 2, 9, 0, 4, 0) nopI) (cond (Nat.beq pc 9) (.iconst 0, 1, 10, 0, 0, 0) nopI))))) (cond (Nat.ble pc 17) (cond (Nat.ble pc 12) (cond (Nat.ble pc 11) (cond (Nat.beq pc 10) (.istore 5, 2, 12, 0, 5, 0) nopI) (cond (Nat.beq pc 12) (.iconst 1, 1, 13, 1, 0, 0) nopI)) (cond (Nat.ble pc 14) (cond (Nat.beq pc 13) (.istore 6, 2, 15, 0, 6, 0) nopI) (cond (Nat.ble pc 15) (cond (Nat.beq pc 15) (.iconst 0, 1, 16, 0, 0, 0) nopI) (cond (Nat.beq pc 16) (.istore 7, 2, 18, 0, 7, 0) nopI)))) (cond (Nat.ble pc 21) (cond (Nat.ble pc 19) (cond (Nat.beq pc 18) (.iload 7, 2, 20, 0, 7, 0) nopI) (cond (Nat.beq pc 20) (.bipush 8, 2, 22, 8, 0, 0) nopI)) (cond (Nat.ble pc 24) (cond (Nat.beq pc 22) (.if_icmp .ge 243, 3, 25, 0, 265, 0) nopI) (cond (Nat.ble pc 25) (cond (Nat.beq pc 25) (.aload_n 0, 1, 26, 0, 0, 0) nopI) (cond (Nat.beq pc 26) (.iload 7, 2, 28, 0, 7, 0) nopI)))))) (cond (Nat.ble pc 42) (cond (Nat.ble pc 34) (cond (Nat.ble pc 31) (cond (Nat.ble pc 28) (cond (Nat.beq pc 28) (.iconst 0, 1, 29, 0, 0, 0) nopI) (cond (Nat.beq pc 29) (.invokevirtual 45, 3, 32, 0, 0, 0) nopI)) (cond (Nat.ble pc 33) (cond (Nat.beq pc 32) (.istore 8, 2, 34, 0, 8, 0) nopI) (cond (Nat.beq pc 34) (.iconst 0, 1, 35, 0, 0, 0) nopI))) (cond (Nat.ble pc 37) (cond (Nat.ble pc 36) (cond (Nat.beq pc 35) (.istore 9, 2, 37, 0, 9, 0) nopI) (cond (Nat.beq pc 37) (.iconst 0, 1, 38, 0, 0, 0) nopI)) (cond (Nat.ble pc 39) (cond (Nat.beq pc 38) (.istore 10, 2, 40, 0, 10, 0) nopI) (cond (Nat.ble pc 40) (cond (Nat.beq pc 40) (.iconst 0, 1, 41, 0, 0, 0) nopI) (cond (Nat.beq pc 41) (.istore 11, 2, 43, 0, 11, 0) nopI))))) (cond (Nat.ble pc 51) (cond (Nat.ble pc 45) (cond (Nat.ble pc 44) (cond (Nat.beq pc 43) (.iload 11, 2, 45, 0, 11, 0) nopI) (cond (Nat.beq pc 45) (.iconst 5, 1, 46, 5, 0, 0) nopI)) (cond (Nat.ble pc 48) (cond (Nat.beq pc 46) (.if_icmp .ge 78, 3, 49, 0, 124, 0) nopI) (cond (Nat.ble pc 49) (cond (Nat.beq pc 49) (.aload_n 0, 1, 50, 0, 0, 0) nopI) (cond (Nat.beq pc 50) (.iload 11, 2, 52, 0, 11, 0) nopI)))) (cond (Nat.ble pc 55) (cond (Nat.ble pc 52) (cond (Nat.beq pc 52) (.iconst 0, 1, 53, 0, 0, 0) nopI) (cond (Nat.beq pc 53) (.invokevirtual 48, 3, 56, 0, 0, 0) nopI)) (cond (Nat.ble pc 57) (cond (Nat.beq pc 56) (.iload 7, 2, 58, 0, 7, 0) nopI) (cond (Nat.ble pc 58) (cond (Nat.beq pc 58) (.ishr, 1, 59, 0, 0, 0) nopI) (cond (Nat.beq pc 59) (.iconst 1, 1, 60, 1, 0, 0) nopI))))))) (cond (Nat.ble pc 94) (cond (Nat.ble pc 75) (cond (Nat.ble pc 65) (cond (Nat.ble pc 61) (cond (Nat.ble pc 60) (cond (Nat.beq pc 60) (.iand, 1, 61, 0, 0, 0) nopI) (cond (Nat.beq pc 61) (.iconst 1, 1, 62, 1, 0, 0) nopI)) (cond (Nat.ble pc 64) (cond (Nat.beq pc 62) (.if_icmp .ne 7, 3, 65, 0, 69, 0) nopI) (cond (Nat.beq pc 65) (.iconst 1, 1, 66, 1, 0, 0) nopI))) (cond (Nat.ble pc 69) (cond (Nat.ble pc 68) (cond (Nat.beq pc 66) (.goto 4, 3, 69, 0, 70, 0) nopI) (cond (Nat.beq pc 69) (.iconst 0, 1, 70, 0, 0, 0) nopI)) (cond (Nat.ble pc 71) (cond (Nat.beq pc 70) (.istore 12, 2, 72, 0, 12, 0) nopI) (cond (Nat.ble pc 73) (cond (Nat.beq pc 72) (.iload 9, 2, 74, 0, 9, 0) nopI) (cond (Nat.beq pc 74) (.iload 12, 2, 76, 0, 12, 0) nopI))))) (cond (Nat.ble pc 85) (cond (Nat.ble pc 79) (cond (Nat.ble pc 78) (cond (Nat.beq pc 76) (.ifCond .eq 10, 3, 79, 0, 86, 0) nopI) (cond (Nat.beq pc 79) (.iconst 1, 1, 80, 1, 0, 0) nopI)) (cond (Nat.ble pc 81) (cond (Nat.beq pc 80) (.iload 11, 2, 82, 0, 11, 0) nopI) (cond (Nat.ble pc 82) (cond (Nat.beq pc 82) (.ishl, 1, 83, 0, 0, 0) nopI) (cond (Nat.beq pc 83) (.goto 4, 3, 86, 0, 87, 0) nopI)))) (cond (Nat.ble pc 87) (cond (Nat.ble pc 86) (cond (Nat.beq pc 86) (.iconst 0, 1, 87, 0, 0, 0) nopI) (cond (Nat.beq pc 87) (.ior, 1, 88, 0, 0, 0) nopI)) (cond (Nat.ble pc 89) (cond (Nat.beq pc 88) (.istore 9, 2, 90, 0, 9, 0) nopI) (cond (Nat.ble pc 91) (cond (Nat.beq pc 90) (.iload 10, 2, 92, 0, 10, 0) nopI) (cond (Nat.beq pc 92) (.ifCond .ne 19, 3, 95, 0, 111, 0) nopI)))))) (cond (Nat.ble pc 111) (cond (Nat.ble pc 102) (cond (Nat.ble pc 99) (cond (Nat.ble pc 96) (cond (Nat.beq pc 95) (.iload 12, 2, 97, 0, 12, 0) nopI) (cond (Nat.beq pc 97) (.ifCond .eq 18, 3, 100, 0, 115, 0) nopI)) (cond (Nat.ble pc 100) (cond (Nat.beq pc 100) (.aload_n 0, 1, 101, 0, 0, 0) nopI) (cond (Nat.beq pc 101) (.iload 11, 2, 103, 0, 11, 0) nopI))) (cond (Nat.ble pc 106) (cond (Nat.ble pc 103) (cond (Nat.beq pc 103) (.iconst 1, 1, 104, 1, 0, 0) nopI) (cond (Nat.beq pc 104) (.invokevirtual 48, 3, 107, 0, 0, 0) nopI)) (cond (Nat.ble pc 107) (cond (Nat.beq pc 107) (.iconst 1, 1, 108, 1, 0, 0) nopI) (cond (Nat.ble pc 110) (cond (Nat.beq pc 108) (.if_icmp .ne 7, 3, 111, 0, 115, 0) nopI) (cond (Nat.beq pc 111) (.iconst 1, 1, 112, 1, 0, 0) nopI))))) (cond (Nat.ble pc 123) (cond (Nat.ble pc 115) (cond (Nat.ble pc 114) (cond (Nat.beq pc 112) (.goto 4, 3, 115, 0, 116, 0) nopI) (cond (Nat.beq pc 115) (.iconst 0, 1, 116, 0, 0, 0) nopI)) (cond (Nat.ble pc 117) (cond (Nat.beq pc 116) (.istore 10, 2, 118, 0, 10, 0) nopI) (cond (Nat.ble pc 120) (cond (Nat.beq pc 118) (.iinc 11 1, 3, 121, 1, 11, 0) nopI) (cond (Nat.beq pc 121) (.goto (-78), 3, 124, 0, 43, 0) nopI)))) (cond (Nat.ble pc 126) (cond (Nat.ble pc 124) (cond (Nat.beq pc 124) (.iload_n 1, 1, 125, 0, 1, 0) nopI) (cond (Nat.beq pc 125) (.iload 8, 2, 127, 0, 8, 0) nopI)) (cond (Nat.ble pc 127) (cond (Nat.beq pc 127) (.iadd, 1, 128, 0, 0, 0) nopI) (cond (Nat.ble pc 128) (cond (Nat.beq pc 128) (.istore_n 1, 1, 129, 0, 1, 0) nopI) (cond (Nat.beq pc 129) (.iload_n 2, 1, 130, 0, 2, 0) nopI)))))))) (cond (Nat.ble pc 187) (cond (Nat.ble pc 162) (cond (Nat.ble pc 146) (cond (Nat.ble pc 137) (cond (Nat.ble pc 132) (cond (Nat.ble pc 130) (cond (Nat.beq pc 130) (.aload_n 0, 1, 131, 0, 0, 0) nopI) (cond (Nat.beq pc 131) (.iload 7, 2, 133, 0, 7, 0) nopI)) (cond (Nat.ble pc 134) (cond (Nat.beq pc 133) (.bipush 6, 2, 135, 6, 0, 0) nopI) (cond (Nat.beq pc 135) (.invokevirtual 45, 3, 138, 0, 0, 0) nopI))) (cond (Nat.ble pc 139) (cond (Nat.ble pc 138) (cond (Nat.beq pc 138) (.iadd, 1, 139, 0, 0, 0) nopI) (cond (Nat.beq pc 139) (.istore_n 2, 1, 140, 0, 2, 0) nopI)) (cond (Nat.ble pc 141) (cond (Nat.beq pc 140) (.iload 5, 2, 142, 0, 5, 0) nopI) (cond (Nat.ble pc 143) (cond (Nat.beq pc 142) (.iload 10, 2, 144, 0, 10, 0) nopI) (cond (Nat.beq pc 144) (.ifCond .eq 10, 3, 147, 0, 154, 0) nopI))))) (cond (Nat.ble pc 154) (cond (Nat.ble pc 149) (cond (Nat.ble pc 147) (cond (Nat.beq pc 147) (.iconst 1, 1, 148, 1, 0, 0) nopI) (cond (Nat.beq pc 148) (.iload 7, 2, 150, 0, 7, 0) nopI)) (cond (Nat.ble pc 150) (cond (Nat.beq pc 150) (.ishl, 1, 151, 0, 0, 0) nopI) (cond (Nat.ble pc 153) (cond (Nat.beq pc 151) (.goto 4, 3, 154, 0, 155, 0) nopI) (cond (Nat.beq pc 154) (.iconst 0, 1, 155, 0, 0, 0) nopI)))) (cond (Nat.ble pc 157) (cond (Nat.ble pc 155) (cond (Nat.beq pc 155) (.ior, 1, 156, 0, 0, 0) nopI) (cond (Nat.beq pc 156) (.istore 5, 2, 158, 0, 5, 0) nopI)) (cond (Nat.ble pc 158) (cond (Nat.beq pc 158) (.iload_n 3, 1, 159, 0, 3, 0) nopI) (cond (Nat.ble pc 160) (cond (Nat.beq pc 159) (.iload 8, 2, 161, 0, 8, 0) nopI) (cond (Nat.beq pc 161) (.bipush 20, 2, 163, 20, 0, 0) nopI)))))) (cond (Nat.ble pc 173) (cond (Nat.ble pc 167) (cond (Nat.ble pc 165) (cond (Nat.ble pc 164) (cond (Nat.beq pc 163) (.iload 7, 2, 165, 0, 7, 0) nopI) (cond (Nat.beq pc 165) (.iconst 2, 1, 166, 2, 0, 0) nopI)) (cond (Nat.ble pc 166) (cond (Nat.beq pc 166) (.idiv, 1, 167, 0, 0, 0) nopI) (cond (Nat.beq pc 167) (.imul, 1, 168, 0, 0, 0) nopI))) (cond (Nat.ble pc 170) (cond (Nat.ble pc 169) (cond (Nat.beq pc 168) (.bipush 30, 2, 170, 30, 0, 0) nopI) (cond (Nat.beq pc 170) (.isub, 1, 171, 0, 0, 0) nopI)) (cond (Nat.ble pc 171) (cond (Nat.beq pc 171) (.imul, 1, 172, 0, 0, 0) nopI) (cond (Nat.ble pc 172) (cond (Nat.beq pc 172) (.iadd, 1, 173, 0, 0, 0) nopI) (cond (Nat.beq pc 173) (.istore_n 3, 1, 174, 0, 3, 0) nopI))))) (cond (Nat.ble pc 182) (cond (Nat.ble pc 177) (cond (Nat.ble pc 175) (cond (Nat.beq pc 174) (.iload 4, 2, 176, 0, 4, 0) nopI) (cond (Nat.beq pc 176) (.iload 8, 2, 178, 0, 8, 0) nopI)) (cond (Nat.ble pc 179) (cond (Nat.beq pc 178) (.bipush 8, 2, 180, 8, 0, 0) nopI) (cond (Nat.ble pc 181) (cond (Nat.beq pc 180) (.iload 7, 2, 182, 0, 7, 0) nopI) (cond (Nat.beq pc 182) (.iconst 2, 1, 183, 2, 0, 0) nopI)))) (cond (Nat.ble pc 184) (cond (Nat.ble pc 183) (cond (Nat.beq pc 183) (.irem, 1, 184, 0, 0, 0) nopI) (cond (Nat.beq pc 184) (.imul, 1, 185, 0, 0, 0) nopI)) (cond (Nat.ble pc 185) (cond (Nat.beq pc 185) (.iconst 4, 1, 186, 4, 0, 0) nopI) (cond (Nat.ble pc 186) (cond (Nat.beq pc 186) (.isub, 1, 187, 0, 0, 0) nopI) (cond (Nat.beq pc 187) (.imul, 1, 188, 0, 0, 0) nopI))))))) (cond (Nat.ble pc 226) (cond (Nat.ble pc 207) (cond (Nat.ble pc 195) (cond (Nat.ble pc 190) (cond (Nat.ble pc 188) (cond (Nat.beq pc 188) (.iadd, 1, 189, 0, 0, 0) nopI) (cond (Nat.beq pc 189) (.istore 4, 2, 191, 0, 4, 0) nopI)) (cond (Nat.ble pc 192) (cond (Nat.beq pc 191) (.iload 6, 2, 193, 0, 6, 0) nopI) (cond (Nat.beq pc 193) (.ifCond .eq 63, 3, 196, 0, 256, 0) nopI))) (cond (Nat.ble pc 200) (cond (Nat.ble pc 197) (cond (Nat.beq pc 196) (.iload 8, 2, 198, 0, 8, 0) nopI) (cond (Nat.beq pc 198) (.ifCond .lt 58, 3, 201, 0, 256, 0) nopI)) (cond (Nat.ble pc 202) (cond (Nat.beq pc 201) (.iload 8, 2, 203, 0, 8, 0) nopI) (cond (Nat.ble pc 204) (cond (Nat.beq pc 203) (.bipush 100, 2, 205, 100, 0, 0) nopI) (cond (Nat.beq pc 205) (.if_icmp .gt 51, 3, 208, 0, 256, 0) nopI))))) (cond (Nat.ble pc 216) (cond (Nat.ble pc 210) (cond (Nat.ble pc 208) (cond (Nat.beq pc 208) (.aload_n 0, 1, 209, 0, 0, 0) nopI) (cond (Nat.beq pc 209) (.iload 7, 2, 211, 0, 7, 0) nopI)) (cond (Nat.ble pc 211) (cond (Nat.beq pc 211) (.iconst 3, 1, 212, 3, 0, 0) nopI) (cond (Nat.ble pc 214) (cond (Nat.beq pc 212) (.invokevirtual 45, 3, 215, 0, 0, 0) nopI) (cond (Nat.beq pc 215) (.iload 9, 2, 217, 0, 9, 0) nopI)))) (cond (Nat.ble pc 220) (cond (Nat.ble pc 219) (cond (Nat.beq pc 217) (.if_icmp .ne 39, 3, 220, 0, 256, 0) nopI) (cond (Nat.beq pc 220) (.aload_n 0, 1, 221, 0, 0, 0) nopI)) (cond (Nat.ble pc 222) (cond (Nat.beq pc 221) (.iload 7, 2, 223, 0, 7, 0) nopI) (cond (Nat.ble pc 223) (cond (Nat.beq pc 223) (.iconst 2, 1, 224, 2, 0, 0) nopI) (cond (Nat.beq pc 224) (.invokevirtual 45, 3, 227, 0, 0, 0) nopI)))))) (cond (Nat.ble pc 243) (cond (Nat.ble pc 234) (cond (Nat.ble pc 230) (cond (Nat.ble pc 227) (cond (Nat.beq pc 227) (.iconst 1, 1, 228, 1, 0, 0) nopI) (cond (Nat.beq pc 228) (.if_icmp .ne 7, 3, 231, 0, 235, 0) nopI)) (cond (Nat.ble pc 231) (cond (Nat.beq pc 231) (.iconst 1, 1, 232, 1, 0, 0) nopI) (cond (Nat.beq pc 232) (.goto 4, 3, 235, 0, 236, 0) nopI))) (cond (Nat.ble pc 237) (cond (Nat.ble pc 235) (cond (Nat.beq pc 235) (.iconst 0, 1, 236, 0, 0, 0) nopI) (cond (Nat.beq pc 236) (.iload 10, 2, 238, 0, 10, 0) nopI)) (cond (Nat.ble pc 240) (cond (Nat.beq pc 238) (.if_icmp .ne 18, 3, 241, 0, 256, 0) nopI) (cond (Nat.ble pc 241) (cond (Nat.beq pc 241) (.aload_n 0, 1, 242, 0, 0, 0) nopI) (cond (Nat.beq pc 242) (.iload 7, 2, 244, 0, 7, 0) nopI))))) (cond (Nat.ble pc 252) (cond (Nat.ble pc 247) (cond (Nat.ble pc 244) (cond (Nat.beq pc 244) (.iconst 4, 1, 245, 4, 0, 0) nopI) (cond (Nat.beq pc 245) (.invokevirtual 45, 3, 248, 0, 0, 0) nopI)) (cond (Nat.ble pc 248) (cond (Nat.beq pc 248) (.iconst 3, 1, 249, 3, 0, 0) nopI) (cond (Nat.ble pc 251) (cond (Nat.beq pc 249) (.if_icmp .gt 7, 3, 252, 0, 256, 0) nopI) (cond (Nat.beq pc 252) (.iconst 1, 1, 253, 1, 0, 0) nopI)))) (cond (Nat.ble pc 256) (cond (Nat.ble pc 255) (cond (Nat.beq pc 253) (.goto 4, 3, 256, 0, 257, 0) nopI) (cond (Nat.beq pc 256) (.iconst 0, 1, 257, 0, 0, 0) nopI)) (cond (Nat.ble pc 258) (cond (Nat.beq pc 257) (.istore 6, 2, 259, 0, 6, 0) nopI) (cond (Nat.ble pc 261) (cond (Nat.beq pc 259) (.iinc 7 1, 3, 262, 1, 7, 0) nopI) (cond (Nat.beq pc 262) (.goto (-244), 3, 265, 0, 18, 0) nopI))))))))) (cond (Nat.ble pc 403) (cond (Nat.ble pc 327) (cond (Nat.ble pc 297) (cond (Nat.ble pc 280) (cond (Nat.ble pc 271) (cond (Nat.ble pc 268) (cond (Nat.ble pc 267) (cond (Nat.beq pc 265) (.sipush 400, 3, 268, 400, 0, 0) nopI) (cond (Nat.beq pc 268) (.iload_n 1, 1, 269, 0, 1, 0) nopI)) (cond (Nat.ble pc 269) (cond (Nat.beq pc 269) (.iadd, 1, 270, 0, 0, 0) nopI) (cond (Nat.beq pc 270) (.istore 7, 2, 272, 0, 7, 0) nopI))) (cond (Nat.ble pc 274) (cond (Nat.ble pc 272) (cond (Nat.beq pc 272) (.iconst 0, 1, 273, 0, 0, 0) nopI) (cond (Nat.beq pc 273) (.istore 8, 2, 275, 0, 8, 0) nopI)) (cond (Nat.ble pc 276) (cond (Nat.beq pc 275) (.iload 8, 2, 277, 0, 8, 0) nopI) (cond (Nat.ble pc 277) (cond (Nat.beq pc 277) (.iconst 3, 1, 278, 3, 0, 0) nopI) (cond (Nat.beq pc 278) (.if_icmp .ge 80, 3, 281, 0, 358, 0) nopI))))) (cond (Nat.ble pc 289) (cond (Nat.ble pc 283) (cond (Nat.ble pc 281) (cond (Nat.beq pc 281) (.aload_n 0, 1, 282, 0, 0, 0) nopI) (cond (Nat.beq pc 282) (.iload 8, 2, 284, 0, 8, 0) nopI)) (cond (Nat.ble pc 284) (cond (Nat.beq pc 284) (.iconst 0, 1, 285, 0, 0, 0) nopI) (cond (Nat.ble pc 287) (cond (Nat.beq pc 285) (.invokevirtual 51, 3, 288, 0, 0, 0) nopI) (cond (Nat.beq pc 288) (.istore 9, 2, 290, 0, 9, 0) nopI)))) (cond (Nat.ble pc 293) (cond (Nat.ble pc 291) (cond (Nat.beq pc 290) (.iload 7, 2, 292, 0, 7, 0) nopI) (cond (Nat.beq pc 292) (.iload 9, 2, 294, 0, 9, 0) nopI)) (cond (Nat.ble pc 294) (cond (Nat.beq pc 294) (.iadd, 1, 295, 0, 0, 0) nopI) (cond (Nat.ble pc 296) (cond (Nat.beq pc 295) (.istore 7, 2, 297, 0, 7, 0) nopI) (cond (Nat.beq pc 297) (.iload_n 3, 1, 298, 0, 3, 0) nopI)))))) (cond (Nat.ble pc 310) (cond (Nat.ble pc 304) (cond (Nat.ble pc 301) (cond (Nat.ble pc 299) (cond (Nat.beq pc 298) (.iload 9, 2, 300, 0, 9, 0) nopI) (cond (Nat.beq pc 300) (.bipush 20, 2, 302, 20, 0, 0) nopI)) (cond (Nat.ble pc 303) (cond (Nat.beq pc 302) (.iload 8, 2, 304, 0, 8, 0) nopI) (cond (Nat.beq pc 304) (.imul, 1, 305, 0, 0, 0) nopI))) (cond (Nat.ble pc 307) (cond (Nat.ble pc 306) (cond (Nat.beq pc 305) (.bipush 20, 2, 307, 20, 0, 0) nopI) (cond (Nat.beq pc 307) (.isub, 1, 308, 0, 0, 0) nopI)) (cond (Nat.ble pc 308) (cond (Nat.beq pc 308) (.imul, 1, 309, 0, 0, 0) nopI) (cond (Nat.ble pc 309) (cond (Nat.beq pc 309) (.iadd, 1, 310, 0, 0, 0) nopI) (cond (Nat.beq pc 310) (.istore_n 3, 1, 311, 0, 3, 0) nopI))))) (cond (Nat.ble pc 318) (cond (Nat.ble pc 314) (cond (Nat.ble pc 312) (cond (Nat.beq pc 311) (.iload 4, 2, 313, 0, 4, 0) nopI) (cond (Nat.beq pc 313) (.iload 9, 2, 315, 0, 9, 0) nopI)) (cond (Nat.ble pc 315) (cond (Nat.beq pc 315) (.aload_n 0, 1, 316, 0, 0, 0) nopI) (cond (Nat.ble pc 317) (cond (Nat.beq pc 316) (.iload 8, 2, 318, 0, 8, 0) nopI) (cond (Nat.beq pc 318) (.iconst 1, 1, 319, 1, 0, 0) nopI)))) (cond (Nat.ble pc 322) (cond (Nat.ble pc 321) (cond (Nat.beq pc 319) (.invokevirtual 51, 3, 322, 0, 0, 0) nopI) (cond (Nat.beq pc 322) (.imul, 1, 323, 0, 0, 0) nopI)) (cond (Nat.ble pc 323) (cond (Nat.beq pc 323) (.iadd, 1, 324, 0, 0, 0) nopI) (cond (Nat.ble pc 325) (cond (Nat.beq pc 324) (.istore 4, 2, 326, 0, 4, 0) nopI) (cond (Nat.beq pc 326) (.iload 6, 2, 328, 0, 6, 0) nopI))))))) (cond (Nat.ble pc 366) (cond (Nat.ble pc 345) (cond (Nat.ble pc 334) (cond (Nat.ble pc 331) (cond (Nat.ble pc 330) (cond (Nat.beq pc 328) (.ifCond .eq 21, 3, 331, 0, 349, 0) nopI) (cond (Nat.beq pc 331) (.aload_n 0, 1, 332, 0, 0, 0) nopI)) (cond (Nat.ble pc 333) (cond (Nat.beq pc 332) (.iload 8, 2, 334, 0, 8, 0) nopI) (cond (Nat.beq pc 334) (.iconst 1, 1, 335, 1, 0, 0) nopI))) (cond (Nat.ble pc 340) (cond (Nat.ble pc 337) (cond (Nat.beq pc 335) (.invokevirtual 51, 3, 338, 0, 0, 0) nopI) (cond (Nat.beq pc 338) (.invokestatic 54, 3, 341, 0, 0, 0) nopI)) (cond (Nat.ble pc 341) (cond (Nat.beq pc 341) (.iconst 3, 1, 342, 3, 0, 0) nopI) (cond (Nat.ble pc 344) (cond (Nat.beq pc 342) (.if_icmp .gt 7, 3, 345, 0, 349, 0) nopI) (cond (Nat.beq pc 345) (.iconst 1, 1, 346, 1, 0, 0) nopI))))) (cond (Nat.ble pc 357) (cond (Nat.ble pc 349) (cond (Nat.ble pc 348) (cond (Nat.beq pc 346) (.goto 4, 3, 349, 0, 350, 0) nopI) (cond (Nat.beq pc 349) (.iconst 0, 1, 350, 0, 0, 0) nopI)) (cond (Nat.ble pc 351) (cond (Nat.beq pc 350) (.istore 6, 2, 352, 0, 6, 0) nopI) (cond (Nat.ble pc 354) (cond (Nat.beq pc 352) (.iinc 8 1, 3, 355, 1, 8, 0) nopI) (cond (Nat.beq pc 355) (.goto (-80), 3, 358, 0, 275, 0) nopI)))) (cond (Nat.ble pc 362) (cond (Nat.ble pc 359) (cond (Nat.beq pc 358) (.iload 6, 2, 360, 0, 6, 0) nopI) (cond (Nat.beq pc 360) (.ifCond .eq 98, 3, 363, 0, 458, 0) nopI)) (cond (Nat.ble pc 363) (cond (Nat.beq pc 363) (.iload_n 1, 1, 364, 0, 1, 0) nopI) (cond (Nat.ble pc 364) (cond (Nat.beq pc 364) (.aload_n 0, 1, 365, 0, 0, 0) nopI) (cond (Nat.beq pc 365) (.bipush 6, 2, 367, 6, 0, 0) nopI)))))) (cond (Nat.ble pc 384) (cond (Nat.ble pc 375) (cond (Nat.ble pc 372) (cond (Nat.ble pc 369) (cond (Nat.beq pc 367) (.invokevirtual 57, 3, 370, 0, 0, 0) nopI) (cond (Nat.beq pc 370) (.if_icmp .ne 88, 3, 373, 0, 458, 0) nopI)) (cond (Nat.ble pc 374) (cond (Nat.beq pc 373) (.iload 7, 2, 375, 0, 7, 0) nopI) (cond (Nat.beq pc 375) (.aload_n 0, 1, 376, 0, 0, 0) nopI))) (cond (Nat.ble pc 379) (cond (Nat.ble pc 376) (cond (Nat.beq pc 376) (.iconst 0, 1, 377, 0, 0, 0) nopI) (cond (Nat.beq pc 377) (.invokevirtual 57, 3, 380, 0, 0, 0) nopI)) (cond (Nat.ble pc 382) (cond (Nat.beq pc 380) (.if_icmp .ne 78, 3, 383, 0, 458, 0) nopI) (cond (Nat.ble pc 383) (cond (Nat.beq pc 383) (.iload_n 3, 1, 384, 0, 3, 0) nopI) (cond (Nat.beq pc 384) (.aload_n 0, 1, 385, 0, 0, 0) nopI))))) (cond (Nat.ble pc 394) (cond (Nat.ble pc 388) (cond (Nat.ble pc 385) (cond (Nat.beq pc 385) (.iconst 4, 1, 386, 4, 0, 0) nopI) (cond (Nat.beq pc 386) (.invokevirtual 57, 3, 389, 0, 0, 0) nopI)) (cond (Nat.ble pc 391) (cond (Nat.beq pc 389) (.if_icmp .ne 69, 3, 392, 0, 458, 0) nopI) (cond (Nat.ble pc 393) (cond (Nat.beq pc 392) (.iload 4, 2, 394, 0, 4, 0) nopI) (cond (Nat.beq pc 394) (.aload_n 0, 1, 395, 0, 0, 0) nopI)))) (cond (Nat.ble pc 398) (cond (Nat.ble pc 395) (cond (Nat.beq pc 395) (.iconst 5, 1, 396, 5, 0, 0) nopI) (cond (Nat.beq pc 396) (.invokevirtual 57, 3, 399, 0, 0, 0) nopI)) (cond (Nat.ble pc 401) (cond (Nat.beq pc 399) (.if_icmp .ne 59, 3, 402, 0, 458, 0) nopI) (cond (Nat.ble pc 402) (cond (Nat.beq pc 402) (.aload_n 0, 1, 403, 0, 0, 0) nopI) (cond (Nat.beq pc 403) (.iconst 1, 1, 404, 1, 0, 0) nopI)))))))) (cond (Nat.ble pc 476) (cond (Nat.ble pc 438) (cond (Nat.ble pc 420) (cond (Nat.ble pc 410) (cond (Nat.ble pc 407) (cond (Nat.ble pc 406) (cond (Nat.beq pc 404) (.invokevirtual 57, 3, 407, 0, 0, 0) nopI) (cond (Nat.beq pc 407) (.iload_n 3, 1, 408, 0, 3, 0) nopI)) (cond (Nat.ble pc 409) (cond (Nat.beq pc 408) (.bipush 40, 2, 410, 40, 0, 0) nopI) (cond (Nat.beq pc 410) (.idiv, 1, 411, 0, 0, 0) nopI))) (cond (Nat.ble pc 414) (cond (Nat.ble pc 413) (cond (Nat.beq pc 411) (.if_icmp .ne 47, 3, 414, 0, 458, 0) nopI) (cond (Nat.beq pc 414) (.aload_n 0, 1, 415, 0, 0, 0) nopI)) (cond (Nat.ble pc 415) (cond (Nat.beq pc 415) (.iconst 2, 1, 416, 2, 0, 0) nopI) (cond (Nat.ble pc 418) (cond (Nat.beq pc 416) (.invokevirtual 57, 3, 419, 0, 0, 0) nopI) (cond (Nat.beq pc 419) (.bipush 10, 2, 421, 10, 0, 0) nopI))))) (cond (Nat.ble pc 429) (cond (Nat.ble pc 423) (cond (Nat.ble pc 422) (cond (Nat.beq pc 421) (.iload 4, 2, 423, 0, 4, 0) nopI) (cond (Nat.beq pc 423) (.imul, 1, 424, 0, 0, 0) nopI)) (cond (Nat.ble pc 425) (cond (Nat.beq pc 424) (.iload 7, 2, 426, 0, 7, 0) nopI) (cond (Nat.ble pc 426) (cond (Nat.beq pc 426) (.idiv, 1, 427, 0, 0, 0) nopI) (cond (Nat.beq pc 427) (.if_icmp .ne 31, 3, 430, 0, 458, 0) nopI)))) (cond (Nat.ble pc 431) (cond (Nat.ble pc 430) (cond (Nat.beq pc 430) (.aload_n 0, 1, 431, 0, 0, 0) nopI) (cond (Nat.beq pc 431) (.iconst 3, 1, 432, 3, 0, 0) nopI)) (cond (Nat.ble pc 434) (cond (Nat.beq pc 432) (.invokevirtual 57, 3, 435, 0, 0, 0) nopI) (cond (Nat.ble pc 436) (cond (Nat.beq pc 435) (.iload 7, 2, 437, 0, 7, 0) nopI) (cond (Nat.beq pc 437) (.bipush 10, 2, 439, 10, 0, 0) nopI)))))) (cond (Nat.ble pc 457) (cond (Nat.ble pc 445) (cond (Nat.ble pc 442) (cond (Nat.ble pc 439) (cond (Nat.beq pc 439) (.idiv, 1, 440, 0, 0, 0) nopI) (cond (Nat.beq pc 440) (.if_icmp .ne 18, 3, 443, 0, 458, 0) nopI)) (cond (Nat.ble pc 444) (cond (Nat.beq pc 443) (.iload 5, 2, 445, 0, 5, 0) nopI) (cond (Nat.beq pc 445) (.aload_n 0, 1, 446, 0, 0, 0) nopI))) (cond (Nat.ble pc 450) (cond (Nat.ble pc 447) (cond (Nat.beq pc 446) (.bipush 14, 2, 448, 14, 0, 0) nopI) (cond (Nat.beq pc 448) (.invokevirtual 57, 3, 451, 0, 0, 0) nopI)) (cond (Nat.ble pc 453) (cond (Nat.beq pc 451) (.if_icmp .ne 7, 3, 454, 0, 458, 0) nopI) (cond (Nat.ble pc 454) (cond (Nat.beq pc 454) (.iconst 1, 1, 455, 1, 0, 0) nopI) (cond (Nat.beq pc 455) (.goto 4, 3, 458, 0, 459, 0) nopI))))) (cond (Nat.ble pc 466) (cond (Nat.ble pc 460) (cond (Nat.ble pc 458) (cond (Nat.beq pc 458) (.iconst 0, 1, 459, 0, 0, 0) nopI) (cond (Nat.beq pc 459) (.istore 6, 2, 461, 0, 6, 0) nopI)) (cond (Nat.ble pc 462) (cond (Nat.beq pc 461) (.iload 6, 2, 463, 0, 6, 0) nopI) (cond (Nat.ble pc 465) (cond (Nat.beq pc 463) (.ifCond .eq 85, 3, 466, 0, 548, 0) nopI) (cond (Nat.beq pc 466) (.iload_n 1, 1, 467, 0, 1, 0) nopI)))) (cond (Nat.ble pc 470) (cond (Nat.ble pc 469) (cond (Nat.beq pc 467) (.sipush 160, 3, 470, 160, 0, 0) nopI) (cond (Nat.beq pc 470) (.aload_n 0, 1, 471, 0, 0, 0) nopI)) (cond (Nat.ble pc 472) (cond (Nat.beq pc 471) (.bipush 8, 2, 473, 8, 0, 0) nopI) (cond (Nat.ble pc 475) (cond (Nat.beq pc 473) (.invokevirtual 57, 3, 476, 0, 0, 0) nopI) (cond (Nat.beq pc 476) (.iadd, 1, 477, 0, 0, 0) nopI))))))) (cond (Nat.ble pc 512) (cond (Nat.ble pc 493) (cond (Nat.ble pc 483) (cond (Nat.ble pc 479) (cond (Nat.ble pc 477) (cond (Nat.beq pc 477) (.aload_n 0, 1, 478, 0, 0, 0) nopI) (cond (Nat.beq pc 478) (.bipush 9, 2, 480, 9, 0, 0) nopI)) (cond (Nat.ble pc 482) (cond (Nat.beq pc 480) (.invokevirtual 57, 3, 483, 0, 0, 0) nopI) (cond (Nat.beq pc 483) (.isub, 1, 484, 0, 0, 0) nopI))) (cond (Nat.ble pc 486) (cond (Nat.ble pc 484) (cond (Nat.beq pc 484) (.aload_n 0, 1, 485, 0, 0, 0) nopI) (cond (Nat.beq pc 485) (.bipush 10, 2, 487, 10, 0, 0) nopI)) (cond (Nat.ble pc 489) (cond (Nat.beq pc 487) (.invokevirtual 57, 3, 490, 0, 0, 0) nopI) (cond (Nat.ble pc 490) (cond (Nat.beq pc 490) (.isub, 1, 491, 0, 0, 0) nopI) (cond (Nat.beq pc 491) (.if_icmp .ne 57, 3, 494, 0, 548, 0) nopI))))) (cond (Nat.ble pc 503) (cond (Nat.ble pc 495) (cond (Nat.ble pc 494) (cond (Nat.beq pc 494) (.iload_n 2, 1, 495, 0, 2, 0) nopI) (cond (Nat.beq pc 495) (.aload_n 0, 1, 496, 0, 0, 0) nopI)) (cond (Nat.ble pc 497) (cond (Nat.beq pc 496) (.bipush 10, 2, 498, 10, 0, 0) nopI) (cond (Nat.ble pc 500) (cond (Nat.beq pc 498) (.invokevirtual 57, 3, 501, 0, 0, 0) nopI) (cond (Nat.beq pc 501) (.if_icmp .ne 47, 3, 504, 0, 548, 0) nopI)))) (cond (Nat.ble pc 505) (cond (Nat.ble pc 504) (cond (Nat.beq pc 504) (.aload_n 0, 1, 505, 0, 0, 0) nopI) (cond (Nat.beq pc 505) (.iconst 0, 1, 506, 0, 0, 0) nopI)) (cond (Nat.ble pc 508) (cond (Nat.beq pc 506) (.invokevirtual 60, 3, 509, 0, 0, 0) nopI) (cond (Nat.ble pc 509) (cond (Nat.beq pc 509) (.iload_n 3, 1, 510, 0, 3, 0) nopI) (cond (Nat.beq pc 510) (.if_icmp .ne 38, 3, 513, 0, 548, 0) nopI)))))) (cond (Nat.ble pc 529) (cond (Nat.ble pc 519) (cond (Nat.ble pc 515) (cond (Nat.ble pc 513) (cond (Nat.beq pc 513) (.aload_n 0, 1, 514, 0, 0, 0) nopI) (cond (Nat.beq pc 514) (.bipush (-37), 2, 516, -37, 0, 0) nopI)) (cond (Nat.ble pc 518) (cond (Nat.beq pc 516) (.invokevirtual 60, 3, 519, 0, 0, 0) nopI) (cond (Nat.beq pc 519) (.iload_n 3, 1, 520, 0, 3, 0) nopI))) (cond (Nat.ble pc 523) (cond (Nat.ble pc 522) (cond (Nat.beq pc 520) (.if_icmp .ne 28, 3, 523, 0, 548, 0) nopI) (cond (Nat.beq pc 523) (.aload_n 0, 1, 524, 0, 0, 0) nopI)) (cond (Nat.ble pc 525) (cond (Nat.beq pc 524) (.bipush 50, 2, 526, 50, 0, 0) nopI) (cond (Nat.ble pc 528) (cond (Nat.beq pc 526) (.invokevirtual 60, 3, 529, 0, 0, 0) nopI) (cond (Nat.beq pc 529) (.iload_n 3, 1, 530, 0, 3, 0) nopI))))) (cond (Nat.ble pc 540) (cond (Nat.ble pc 533) (cond (Nat.ble pc 532) (cond (Nat.beq pc 530) (.if_icmp .ne 18, 3, 533, 0, 548, 0) nopI) (cond (Nat.beq pc 533) (.aload_n 0, 1, 534, 0, 0, 0) nopI)) (cond (Nat.ble pc 535) (cond (Nat.beq pc 534) (.bipush 12, 2, 536, 12, 0, 0) nopI) (cond (Nat.ble pc 538) (cond (Nat.beq pc 536) (.invokevirtual 57, 3, 539, 0, 0, 0) nopI) (cond (Nat.beq pc 539) (.bipush 12, 2, 541, 12, 0, 0) nopI)))) (cond (Nat.ble pc 544) (cond (Nat.ble pc 543) (cond (Nat.beq pc 541) (.if_icmp .gt 7, 3, 544, 0, 548, 0) nopI) (cond (Nat.beq pc 544) (.iconst 1, 1, 545, 1, 0, 0) nopI)) (cond (Nat.ble pc 547) (cond (Nat.beq pc 545) (.goto 4, 3, 548, 0, 549, 0) nopI) (cond (Nat.ble pc 548) (cond (Nat.beq pc 548) (.iconst 0, 1, 549, 0, 0, 0) nopI) (cond (Nat.beq pc 549) (.ireturn, 1, 550, 0, 0, 0) nopI))))))))))
def m_L_isBargeSo : MI := (yL_isBargeSo, cL_isBargeSo, 13, (some .boolean), (4, 86, 0, 0), 550, k_L_isBargeSo)
set_option maxRecDepth 100000 in
theorem ok_L_isBargeSo : MOk m_L_isBargeSo := MOk.of (by decide +kernel) (fun _ => rfl)
theorem om_L_isBargeSo : okM m_L_isBargeSo = true := by decide +kernel
def k_L_isWorkSo (pc : Nat) : Ins := cond (Nat.ble 324 pc) nopI (cond (Nat.ble pc 154) (cond (Nat.ble pc 72) (cond (Nat.ble pc 36) (cond (Nat.ble pc 14) (cond (Nat.ble pc 6) (cond (Nat.ble pc 1) (cond (Nat.ble pc 0) (cond (Nat.beq pc 0) (.aload_n 0, 1, 1, 0, 0, 0) nopI) (cond (Nat.beq pc 1) (.iconst 0, 1, 2, 0, 0, 0) nopI)) (cond (Nat.ble pc 2) (cond (Nat.beq pc 2) (.iconst 2, 1, 3, 2, 0, 0) nopI) (cond (Nat.ble pc 5) (cond (Nat.beq pc 3) (.invokevirtual 63, 3, 6, 0, 0, 0) nopI) (cond (Nat.beq pc 6) (.istore_n 1, 1, 7, 0, 1, 0) nopI)))) (cond (Nat.ble pc 9) (cond (Nat.ble pc 7) (cond (Nat.beq pc 7) (.aload_n 0, 1, 8, 0, 0, 0) nopI) (cond (Nat.beq pc 8) (.bipush 12, 2, 10, 12, 0, 0) nopI)) (cond (Nat.ble pc 12) (cond (Nat.beq pc 10) (.invokevirtual 57, 3, 13, 0, 0, 0) nopI) (cond (Nat.ble pc 13) (cond (Nat.beq pc 13) (.istore_n 2, 1, 14, 0, 2, 0) nopI) (cond (Nat.beq pc 14) (.aload_n 0, 1, 15, 0, 0, 0) nopI))))) (cond (Nat.ble pc 23) (cond (Nat.ble pc 19) (cond (Nat.ble pc 16) (cond (Nat.beq pc 15) (.bipush 13, 2, 17, 13, 0, 0) nopI) (cond (Nat.beq pc 17) (.invokevirtual 57, 3, 20, 0, 0, 0) nopI)) (cond (Nat.ble pc 20) (cond (Nat.beq pc 20) (.istore_n 3, 1, 21, 0, 3, 0) nopI) (cond (Nat.ble pc 21) (cond (Nat.beq pc 21) (.aload_n 0, 1, 22, 0, 0, 0) nopI) (cond (Nat.beq pc 22) (.bipush 7, 2, 24, 7, 0, 0) nopI)))) (cond (Nat.ble pc 29) (cond (Nat.ble pc 26) (cond (Nat.beq pc 24) (.invokevirtual 57, 3, 27, 0, 0, 0) nopI) (cond (Nat.ble pc 28) (cond (Nat.beq pc 27) (.istore 4, 2, 29, 0, 4, 0) nopI) (cond (Nat.beq pc 29) (.iload_n 2, 1, 30, 0, 2, 0) nopI))) (cond (Nat.ble pc 32) (cond (Nat.beq pc 30) (.ifCond .ne 25, 3, 33, 0, 55, 0) nopI) (cond (Nat.ble pc 33) (cond (Nat.beq pc 33) (.iload_n 1, 1, 34, 0, 1, 0) nopI) (cond (Nat.beq pc 34) (.sipush (-1005), 3, 37, -1005, 0, 0) nopI)))))) (cond (Nat.ble pc 55) (cond (Nat.ble pc 45) (cond (Nat.ble pc 40) (cond (Nat.ble pc 39) (cond (Nat.beq pc 37) (.if_icmp .ne 16, 3, 40, 0, 53, 0) nopI) (cond (Nat.beq pc 40) (.aload_n 0, 1, 41, 0, 0, 0) nopI)) (cond (Nat.ble pc 41) (cond (Nat.beq pc 41) (.iconst 1, 1, 42, 1, 0, 0) nopI) (cond (Nat.ble pc 44) (cond (Nat.beq pc 42) (.invokevirtual 36, 3, 45, 0, 0, 0) nopI) (cond (Nat.beq pc 45) (.iload_n 1, 1, 46, 0, 1, 0) nopI)))) (cond (Nat.ble pc 52) (cond (Nat.ble pc 48) (cond (Nat.beq pc 46) (.if_icmp .ne 7, 3, 49, 0, 53, 0) nopI) (cond (Nat.ble pc 49) (cond (Nat.beq pc 49) (.iconst 1, 1, 50, 1, 0, 0) nopI) (cond (Nat.beq pc 50) (.goto 4, 3, 53, 0, 54, 0) nopI))) (cond (Nat.ble pc 53) (cond (Nat.beq pc 53) (.iconst 0, 1, 54, 0, 0, 0) nopI) (cond (Nat.ble pc 54) (cond (Nat.beq pc 54) (.ireturn, 1, 55, 0, 0, 0) nopI) (cond (Nat.beq pc 55) (.aload_n 0, 1, 56, 0, 0, 0) nopI))))) (cond (Nat.ble pc 63) (cond (Nat.ble pc 57) (cond (Nat.ble pc 56) (cond (Nat.beq pc 56) (.iconst 0, 1, 57, 0, 0, 0) nopI) (cond (Nat.beq pc 57) (.iconst 0, 1, 58, 0, 0, 0) nopI)) (cond (Nat.ble pc 60) (cond (Nat.beq pc 58) (.invokevirtual 63, 3, 61, 0, 0, 0) nopI) (cond (Nat.ble pc 62) (cond (Nat.beq pc 61) (.istore 5, 2, 63, 0, 5, 0) nopI) (cond (Nat.beq pc 63) (.aload_n 0, 1, 64, 0, 0, 0) nopI)))) (cond (Nat.ble pc 68) (cond (Nat.ble pc 64) (cond (Nat.beq pc 64) (.iconst 0, 1, 65, 0, 0, 0) nopI) (cond (Nat.ble pc 65) (cond (Nat.beq pc 65) (.iconst 1, 1, 66, 1, 0, 0) nopI) (cond (Nat.beq pc 66) (.invokevirtual 63, 3, 69, 0, 0, 0) nopI))) (cond (Nat.ble pc 70) (cond (Nat.beq pc 69) (.istore 6, 2, 71, 0, 6, 0) nopI) (cond (Nat.ble pc 71) (cond (Nat.beq pc 71) (.aload_n 0, 1, 72, 0, 0, 0) nopI) (cond (Nat.beq pc 72) (.iconst 1, 1, 73, 1, 0, 0) nopI))))))) (cond (Nat.ble pc 113) (cond (Nat.ble pc 92) (cond (Nat.ble pc 81) (cond (Nat.ble pc 76) (cond (Nat.ble pc 73) (cond (Nat.beq pc 73) (.iconst 1, 1, 74, 1, 0, 0) nopI) (cond (Nat.beq pc 74) (.invokevirtual 63, 3, 77, 0, 0, 0) nopI)) (cond (Nat.ble pc 78) (cond (Nat.beq pc 77) (.istore 7, 2, 79, 0, 7, 0) nopI) (cond (Nat.ble pc 79) (cond (Nat.beq pc 79) (.aload_n 0, 1, 80, 0, 0, 0) nopI) (cond (Nat.beq pc 80) (.bipush 6, 2, 82, 6, 0, 0) nopI)))) (cond (Nat.ble pc 86) (cond (Nat.ble pc 84) (cond (Nat.beq pc 82) (.invokevirtual 57, 3, 85, 0, 0, 0) nopI) (cond (Nat.beq pc 85) (.istore 8, 2, 87, 0, 8, 0) nopI)) (cond (Nat.ble pc 87) (cond (Nat.beq pc 87) (.aload_n 0, 1, 88, 0, 0, 0) nopI) (cond (Nat.ble pc 89) (cond (Nat.beq pc 88) (.bipush 10, 2, 90, 10, 0, 0) nopI) (cond (Nat.beq pc 90) (.invokevirtual 57, 3, 93, 0, 0, 0) nopI))))) (cond (Nat.ble pc 100) (cond (Nat.ble pc 95) (cond (Nat.ble pc 94) (cond (Nat.beq pc 93) (.istore 9, 2, 95, 0, 9, 0) nopI) (cond (Nat.beq pc 95) (.aload_n 0, 1, 96, 0, 0, 0) nopI)) (cond (Nat.ble pc 96) (cond (Nat.beq pc 96) (.iconst 3, 1, 97, 3, 0, 0) nopI) (cond (Nat.ble pc 99) (cond (Nat.beq pc 97) (.invokevirtual 57, 3, 100, 0, 0, 0) nopI) (cond (Nat.beq pc 100) (.aload_n 0, 1, 101, 0, 0, 0) nopI)))) (cond (Nat.ble pc 108) (cond (Nat.ble pc 102) (cond (Nat.beq pc 101) (.bipush 18, 2, 103, 18, 0, 0) nopI) (cond (Nat.ble pc 105) (cond (Nat.beq pc 103) (.invokevirtual 57, 3, 106, 0, 0, 0) nopI) (cond (Nat.beq pc 106) (.if_icmp .le 7, 3, 109, 0, 113, 0) nopI))) (cond (Nat.ble pc 109) (cond (Nat.beq pc 109) (.iconst 1, 1, 110, 1, 0, 0) nopI) (cond (Nat.ble pc 112) (cond (Nat.beq pc 110) (.goto 4, 3, 113, 0, 114, 0) nopI) (cond (Nat.beq pc 113) (.iconst 0, 1, 114, 0, 0, 0) nopI)))))) (cond (Nat.ble pc 133) (cond (Nat.ble pc 122) (cond (Nat.ble pc 116) (cond (Nat.ble pc 115) (cond (Nat.beq pc 114) (.istore 10, 2, 116, 0, 10, 0) nopI) (cond (Nat.beq pc 116) (.aload_n 0, 1, 117, 0, 0, 0) nopI)) (cond (Nat.ble pc 117) (cond (Nat.beq pc 117) (.iconst 1, 1, 118, 1, 0, 0) nopI) (cond (Nat.ble pc 120) (cond (Nat.beq pc 118) (.invokevirtual 36, 3, 121, 0, 0, 0) nopI) (cond (Nat.beq pc 121) (.istore 11, 2, 123, 0, 11, 0) nopI)))) (cond (Nat.ble pc 128) (cond (Nat.ble pc 124) (cond (Nat.beq pc 123) (.iload 11, 2, 125, 0, 11, 0) nopI) (cond (Nat.ble pc 125) (cond (Nat.beq pc 125) (.iload_n 1, 1, 126, 0, 1, 0) nopI) (cond (Nat.beq pc 126) (.ifCond .le 7, 3, 129, 0, 133, 0) nopI))) (cond (Nat.ble pc 129) (cond (Nat.beq pc 129) (.iconst 1, 1, 130, 1, 0, 0) nopI) (cond (Nat.ble pc 132) (cond (Nat.beq pc 130) (.goto 4, 3, 133, 0, 134, 0) nopI) (cond (Nat.beq pc 133) (.iconst 0, 1, 134, 0, 0, 0) nopI))))) (cond (Nat.ble pc 143) (cond (Nat.ble pc 137) (cond (Nat.ble pc 136) (cond (Nat.beq pc 134) (.if_icmp .ne 43, 3, 137, 0, 177, 0) nopI) (cond (Nat.beq pc 137) (.aload_n 0, 1, 138, 0, 0, 0) nopI)) (cond (Nat.ble pc 139) (cond (Nat.beq pc 138) (.bipush 12, 2, 140, 12, 0, 0) nopI) (cond (Nat.ble pc 142) (cond (Nat.beq pc 140) (.invokevirtual 57, 3, 143, 0, 0, 0) nopI) (cond (Nat.beq pc 143) (.iload_n 2, 1, 144, 0, 2, 0) nopI)))) (cond (Nat.ble pc 148) (cond (Nat.ble pc 144) (cond (Nat.beq pc 144) (.iconst 1, 1, 145, 1, 0, 0) nopI) (cond (Nat.ble pc 145) (cond (Nat.beq pc 145) (.isub, 1, 146, 0, 0, 0) nopI) (cond (Nat.beq pc 146) (.if_icmp .ne 31, 3, 149, 0, 177, 0) nopI))) (cond (Nat.ble pc 149) (cond (Nat.beq pc 149) (.aload_n 0, 1, 150, 0, 0, 0) nopI) (cond (Nat.ble pc 151) (cond (Nat.beq pc 150) (.bipush 13, 2, 152, 13, 0, 0) nopI) (cond (Nat.beq pc 152) (.invokevirtual 57, 3, 155, 0, 0, 0) nopI)))))))) (cond (Nat.ble pc 235) (cond (Nat.ble pc 194) (cond (Nat.ble pc 172) (cond (Nat.ble pc 162) (cond (Nat.ble pc 157) (cond (Nat.ble pc 155) (cond (Nat.beq pc 155) (.iload_n 3, 1, 156, 0, 3, 0) nopI) (cond (Nat.beq pc 156) (.iload 11, 2, 158, 0, 11, 0) nopI)) (cond (Nat.ble pc 158) (cond (Nat.beq pc 158) (.iadd, 1, 159, 0, 0, 0) nopI) (cond (Nat.ble pc 161) (cond (Nat.beq pc 159) (.if_icmp .ne 18, 3, 162, 0, 177, 0) nopI) (cond (Nat.beq pc 162) (.aload_n 0, 1, 163, 0, 0, 0) nopI)))) (cond (Nat.ble pc 164) (cond (Nat.ble pc 163) (cond (Nat.beq pc 163) (.iconst 0, 1, 164, 0, 0, 0) nopI) (cond (Nat.beq pc 164) (.iconst 1, 1, 165, 1, 0, 0) nopI)) (cond (Nat.ble pc 167) (cond (Nat.beq pc 165) (.invokevirtual 63, 3, 168, 0, 0, 0) nopI) (cond (Nat.ble pc 169) (cond (Nat.beq pc 168) (.iload 7, 2, 170, 0, 7, 0) nopI) (cond (Nat.beq pc 170) (.if_icmp .ne 7, 3, 173, 0, 177, 0) nopI))))) (cond (Nat.ble pc 181) (cond (Nat.ble pc 176) (cond (Nat.ble pc 173) (cond (Nat.beq pc 173) (.iconst 1, 1, 174, 1, 0, 0) nopI) (cond (Nat.beq pc 174) (.goto 4, 3, 177, 0, 178, 0) nopI)) (cond (Nat.ble pc 177) (cond (Nat.beq pc 177) (.iconst 0, 1, 178, 0, 0, 0) nopI) (cond (Nat.ble pc 179) (cond (Nat.beq pc 178) (.istore 12, 2, 180, 0, 12, 0) nopI) (cond (Nat.beq pc 180) (.iload 12, 2, 182, 0, 12, 0) nopI)))) (cond (Nat.ble pc 187) (cond (Nat.ble pc 184) (cond (Nat.beq pc 182) (.ifCond .eq 107, 3, 185, 0, 289, 0) nopI) (cond (Nat.ble pc 185) (cond (Nat.beq pc 185) (.aload_n 0, 1, 186, 0, 0, 0) nopI) (cond (Nat.beq pc 186) (.bipush 7, 2, 188, 7, 0, 0) nopI))) (cond (Nat.ble pc 190) (cond (Nat.beq pc 188) (.invokevirtual 57, 3, 191, 0, 0, 0) nopI) (cond (Nat.ble pc 192) (cond (Nat.beq pc 191) (.iload 4, 2, 193, 0, 4, 0) nopI) (cond (Nat.beq pc 193) (.iload 5, 2, 195, 0, 5, 0) nopI)))))) (cond (Nat.ble pc 215) (cond (Nat.ble pc 204) (cond (Nat.ble pc 198) (cond (Nat.ble pc 195) (cond (Nat.beq pc 195) (.iconst 1, 1, 196, 1, 0, 0) nopI) (cond (Nat.beq pc 196) (.if_icmp .le 12, 3, 199, 0, 208, 0) nopI)) (cond (Nat.ble pc 199) (cond (Nat.beq pc 199) (.iload_n 1, 1, 200, 0, 1, 0) nopI) (cond (Nat.ble pc 202) (cond (Nat.beq pc 200) (.ifCond .ne 8, 3, 203, 0, 208, 0) nopI) (cond (Nat.beq pc 203) (.iload 6, 2, 205, 0, 6, 0) nopI)))) (cond (Nat.ble pc 209) (cond (Nat.ble pc 207) (cond (Nat.beq pc 205) (.goto 4, 3, 208, 0, 209, 0) nopI) (cond (Nat.ble pc 208) (cond (Nat.beq pc 208) (.iconst 0, 1, 209, 0, 0, 0) nopI) (cond (Nat.beq pc 209) (.iadd, 1, 210, 0, 0, 0) nopI))) (cond (Nat.ble pc 212) (cond (Nat.beq pc 210) (.if_icmp .ne 79, 3, 213, 0, 289, 0) nopI) (cond (Nat.ble pc 214) (cond (Nat.beq pc 213) (.iload 5, 2, 215, 0, 5, 0) nopI) (cond (Nat.beq pc 215) (.iconst 1, 1, 216, 1, 0, 0) nopI))))) (cond (Nat.ble pc 225) (cond (Nat.ble pc 219) (cond (Nat.ble pc 218) (cond (Nat.beq pc 216) (.if_icmp .gt 17, 3, 219, 0, 233, 0) nopI) (cond (Nat.beq pc 219) (.aload_n 0, 1, 220, 0, 0, 0) nopI)) (cond (Nat.ble pc 221) (cond (Nat.beq pc 220) (.iload 6, 2, 222, 0, 6, 0) nopI) (cond (Nat.ble pc 222) (cond (Nat.beq pc 222) (.iconst 1, 1, 223, 1, 0, 0) nopI) (cond (Nat.beq pc 223) (.invokevirtual 48, 3, 226, 0, 0, 0) nopI)))) (cond (Nat.ble pc 229) (cond (Nat.ble pc 226) (cond (Nat.beq pc 226) (.iconst 1, 1, 227, 1, 0, 0) nopI) (cond (Nat.ble pc 228) (cond (Nat.beq pc 227) (.iload 5, 2, 229, 0, 5, 0) nopI) (cond (Nat.beq pc 229) (.isub, 1, 230, 0, 0, 0) nopI))) (cond (Nat.ble pc 232) (cond (Nat.beq pc 230) (.if_icmp .ne 59, 3, 233, 0, 289, 0) nopI) (cond (Nat.ble pc 234) (cond (Nat.beq pc 233) (.iload 5, 2, 235, 0, 5, 0) nopI) (cond (Nat.beq pc 235) (.iconst 4, 1, 236, 4, 0, 0) nopI))))))) (cond (Nat.ble pc 278) (cond (Nat.ble pc 256) (cond (Nat.ble pc 245) (cond (Nat.ble pc 239) (cond (Nat.ble pc 238) (cond (Nat.beq pc 236) (.if_icmp .ne 24, 3, 239, 0, 260, 0) nopI) (cond (Nat.beq pc 239) (.aload_n 0, 1, 240, 0, 0, 0) nopI)) (cond (Nat.ble pc 241) (cond (Nat.beq pc 240) (.bipush 6, 2, 242, 6, 0, 0) nopI) (cond (Nat.ble pc 244) (cond (Nat.beq pc 242) (.invokevirtual 57, 3, 245, 0, 0, 0) nopI) (cond (Nat.beq pc 245) (.aload_n 0, 1, 246, 0, 0, 0) nopI)))) (cond (Nat.ble pc 251) (cond (Nat.ble pc 247) (cond (Nat.beq pc 246) (.bipush 10, 2, 248, 10, 0, 0) nopI) (cond (Nat.ble pc 250) (cond (Nat.beq pc 248) (.invokevirtual 57, 3, 251, 0, 0, 0) nopI) (cond (Nat.beq pc 251) (.iadd, 1, 252, 0, 0, 0) nopI))) (cond (Nat.ble pc 253) (cond (Nat.beq pc 252) (.iload 8, 2, 254, 0, 8, 0) nopI) (cond (Nat.ble pc 255) (cond (Nat.beq pc 254) (.iload 9, 2, 256, 0, 9, 0) nopI) (cond (Nat.beq pc 256) (.iadd, 1, 257, 0, 0, 0) nopI))))) (cond (Nat.ble pc 267) (cond (Nat.ble pc 261) (cond (Nat.ble pc 259) (cond (Nat.beq pc 257) (.if_icmp .ne 32, 3, 260, 0, 289, 0) nopI) (cond (Nat.beq pc 260) (.iload 5, 2, 262, 0, 5, 0) nopI)) (cond (Nat.ble pc 262) (cond (Nat.beq pc 262) (.iconst 2, 1, 263, 2, 0, 0) nopI) (cond (Nat.ble pc 265) (cond (Nat.beq pc 263) (.if_icmp .ne 22, 3, 266, 0, 285, 0) nopI) (cond (Nat.beq pc 266) (.iload 10, 2, 268, 0, 10, 0) nopI)))) (cond (Nat.ble pc 272) (cond (Nat.ble pc 270) (cond (Nat.beq pc 268) (.ifCond .ne 17, 3, 271, 0, 285, 0) nopI) (cond (Nat.ble pc 271) (cond (Nat.beq pc 271) (.aload_n 0, 1, 272, 0, 0, 0) nopI) (cond (Nat.beq pc 272) (.iconst 3, 1, 273, 3, 0, 0) nopI))) (cond (Nat.ble pc 275) (cond (Nat.beq pc 273) (.invokevirtual 57, 3, 276, 0, 0, 0) nopI) (cond (Nat.ble pc 276) (cond (Nat.beq pc 276) (.aload_n 0, 1, 277, 0, 0, 0) nopI) (cond (Nat.beq pc 277) (.bipush 18, 2, 279, 18, 0, 0) nopI)))))) (cond (Nat.ble pc 302) (cond (Nat.ble pc 289) (cond (Nat.ble pc 284) (cond (Nat.ble pc 281) (cond (Nat.beq pc 279) (.invokevirtual 57, 3, 282, 0, 0, 0) nopI) (cond (Nat.beq pc 282) (.if_icmp .gt 7, 3, 285, 0, 289, 0) nopI)) (cond (Nat.ble pc 285) (cond (Nat.beq pc 285) (.iconst 1, 1, 286, 1, 0, 0) nopI) (cond (Nat.ble pc 288) (cond (Nat.beq pc 286) (.goto 4, 3, 289, 0, 290, 0) nopI) (cond (Nat.beq pc 289) (.iconst 0, 1, 290, 0, 0, 0) nopI)))) (cond (Nat.ble pc 295) (cond (Nat.ble pc 291) (cond (Nat.beq pc 290) (.istore 12, 2, 292, 0, 12, 0) nopI) (cond (Nat.ble pc 292) (cond (Nat.beq pc 292) (.aload_n 0, 1, 293, 0, 0, 0) nopI) (cond (Nat.beq pc 293) (.invokevirtual 66, 3, 296, 0, 0, 0) nopI))) (cond (Nat.ble pc 297) (cond (Nat.beq pc 296) (.istore 13, 2, 298, 0, 13, 0) nopI) (cond (Nat.ble pc 299) (cond (Nat.beq pc 298) (.iload 12, 2, 300, 0, 12, 0) nopI) (cond (Nat.beq pc 300) (.ifCond .eq 22, 3, 303, 0, 322, 0) nopI))))) (cond (Nat.ble pc 313) (cond (Nat.ble pc 307) (cond (Nat.ble pc 304) (cond (Nat.beq pc 303) (.iload 13, 2, 305, 0, 13, 0) nopI) (cond (Nat.beq pc 305) (.ifCond .lt 17, 3, 308, 0, 322, 0) nopI)) (cond (Nat.ble pc 308) (cond (Nat.beq pc 308) (.aload_n 0, 1, 309, 0, 0, 0) nopI) (cond (Nat.ble pc 310) (cond (Nat.beq pc 309) (.bipush 12, 2, 311, 12, 0, 0) nopI) (cond (Nat.beq pc 311) (.invokevirtual 57, 3, 314, 0, 0, 0) nopI)))) (cond (Nat.ble pc 318) (cond (Nat.ble pc 314) (cond (Nat.beq pc 314) (.iload_n 2, 1, 315, 0, 2, 0) nopI) (cond (Nat.ble pc 317) (cond (Nat.beq pc 315) (.if_icmp .ne 7, 3, 318, 0, 322, 0) nopI) (cond (Nat.beq pc 318) (.iconst 1, 1, 319, 1, 0, 0) nopI))) (cond (Nat.ble pc 321) (cond (Nat.beq pc 319) (.goto 4, 3, 322, 0, 323, 0) nopI) (cond (Nat.ble pc 322) (cond (Nat.beq pc 322) (.iconst 0, 1, 323, 0, 0, 0) nopI) (cond (Nat.beq pc 323) (.ireturn, 1, 324, 0, 0, 0) nopI)))))))))
def m_L_isWorkSo : MI := (yL_isWorkSo, cL_isWorkSo, 14, (some .boolean), (7, 162, 0, 0), 324, k_L_isWorkSo)
set_option maxRecDepth 100000 in
theorem ok_L_isWorkSo : MOk m_L_isWorkSo := MOk.of (by decide +kernel) (fun _ => rfl)
theorem om_L_isWorkSo : okM m_L_isWorkSo = true := by decide +kernel
def k_L_isUprightSo (pc : Nat) : Ins := cond (Nat.ble 236 pc) nopI (cond (Nat.ble pc 114) (cond (Nat.ble pc 53) (cond (Nat.ble pc 21) (cond (Nat.ble pc 8) (cond (Nat.ble pc 2) (cond (Nat.ble pc 0) (cond (Nat.beq pc 0) (.aload_n 0, 1, 1, 0, 0, 0) nopI) (cond (Nat.ble pc 1) (cond (Nat.beq pc 1) (.iload_n 1, 1, 2, 0, 1, 0) nopI) (cond (Nat.beq pc 2) (.iconst 0, 1, 3, 0, 0, 0) nopI))) (cond (Nat.ble pc 6) (cond (Nat.ble pc 5) (cond (Nat.beq pc 3) (.invokevirtual 70, 3, 6, 0, 0, 0) nopI) (cond (Nat.beq pc 6) (.istore_n 2, 1, 7, 0, 2, 0) nopI)) (cond (Nat.ble pc 7) (cond (Nat.beq pc 7) (.aload_n 0, 1, 8, 0, 0, 0) nopI) (cond (Nat.beq pc 8) (.iload_n 1, 1, 9, 0, 1, 0) nopI)))) (cond (Nat.ble pc 14) (cond (Nat.ble pc 12) (cond (Nat.ble pc 9) (cond (Nat.beq pc 9) (.iconst 1, 1, 10, 1, 0, 0) nopI) (cond (Nat.beq pc 10) (.invokevirtual 70, 3, 13, 0, 0, 0) nopI)) (cond (Nat.ble pc 13) (cond (Nat.beq pc 13) (.istore_n 3, 1, 14, 0, 3, 0) nopI) (cond (Nat.beq pc 14) (.aload_n 0, 1, 15, 0, 0, 0) nopI))) (cond (Nat.ble pc 16) (cond (Nat.ble pc 15) (cond (Nat.beq pc 15) (.iload_n 1, 1, 16, 0, 1, 0) nopI) (cond (Nat.beq pc 16) (.iconst 2, 1, 17, 2, 0, 0) nopI)) (cond (Nat.ble pc 19) (cond (Nat.beq pc 17) (.invokevirtual 70, 3, 20, 0, 0, 0) nopI) (cond (Nat.beq pc 20) (.istore 4, 2, 22, 0, 4, 0) nopI))))) (cond (Nat.ble pc 35) (cond (Nat.ble pc 28) (cond (Nat.ble pc 23) (cond (Nat.ble pc 22) (cond (Nat.beq pc 22) (.aload_n 0, 1, 23, 0, 0, 0) nopI) (cond (Nat.beq pc 23) (.iconst 0, 1, 24, 0, 0, 0) nopI)) (cond (Nat.ble pc 26) (cond (Nat.beq pc 24) (.invokevirtual 57, 3, 27, 0, 0, 0) nopI) (cond (Nat.beq pc 27) (.istore 5, 2, 29, 0, 5, 0) nopI))) (cond (Nat.ble pc 33) (cond (Nat.ble pc 30) (cond (Nat.beq pc 29) (.iload 4, 2, 31, 0, 4, 0) nopI) (cond (Nat.beq pc 31) (.invokestatic 54, 3, 34, 0, 0, 0) nopI)) (cond (Nat.ble pc 34) (cond (Nat.beq pc 34) (.aload_n 0, 1, 35, 0, 0, 0) nopI) (cond (Nat.beq pc 35) (.iconst 2, 1, 36, 2, 0, 0) nopI)))) (cond (Nat.ble pc 45) (cond (Nat.ble pc 41) (cond (Nat.ble pc 38) (cond (Nat.beq pc 36) (.invokevirtual 57, 3, 39, 0, 0, 0) nopI) (cond (Nat.beq pc 39) (.invokestatic 54, 3, 42, 0, 0, 0) nopI)) (cond (Nat.ble pc 44) (cond (Nat.beq pc 42) (.if_icmp .gt 33, 3, 45, 0, 75, 0) nopI) (cond (Nat.beq pc 45) (.iload_n 3, 1, 46, 0, 3, 0) nopI))) (cond (Nat.ble pc 49) (cond (Nat.ble pc 48) (cond (Nat.beq pc 46) (.invokestatic 54, 3, 49, 0, 0, 0) nopI) (cond (Nat.beq pc 49) (.iload_n 1, 1, 50, 0, 1, 0) nopI)) (cond (Nat.ble pc 52) (cond (Nat.beq pc 50) (.if_icmp .gt 25, 3, 53, 0, 75, 0) nopI) (cond (Nat.beq pc 53) (.iload_n 3, 1, 54, 0, 3, 0) nopI)))))) (cond (Nat.ble pc 84) (cond (Nat.ble pc 70) (cond (Nat.ble pc 62) (cond (Nat.ble pc 57) (cond (Nat.ble pc 56) (cond (Nat.beq pc 54) (.ifCond .ne 17, 3, 57, 0, 71, 0) nopI) (cond (Nat.beq pc 57) (.iload_n 2, 1, 58, 0, 2, 0) nopI)) (cond (Nat.ble pc 60) (cond (Nat.beq pc 58) (.ifCond .ne 17, 3, 61, 0, 75, 0) nopI) (cond (Nat.beq pc 61) (.iload 4, 2, 63, 0, 4, 0) nopI))) (cond (Nat.ble pc 64) (cond (Nat.ble pc 63) (cond (Nat.beq pc 63) (.aload_n 0, 1, 64, 0, 0, 0) nopI) (cond (Nat.beq pc 64) (.iconst 2, 1, 65, 2, 0, 0) nopI)) (cond (Nat.ble pc 67) (cond (Nat.beq pc 65) (.invokevirtual 57, 3, 68, 0, 0, 0) nopI) (cond (Nat.beq pc 68) (.if_icmp .ne 7, 3, 71, 0, 75, 0) nopI)))) (cond (Nat.ble pc 77) (cond (Nat.ble pc 74) (cond (Nat.ble pc 71) (cond (Nat.beq pc 71) (.iconst 1, 1, 72, 1, 0, 0) nopI) (cond (Nat.beq pc 72) (.goto 4, 3, 75, 0, 76, 0) nopI)) (cond (Nat.ble pc 75) (cond (Nat.beq pc 75) (.iconst 0, 1, 76, 0, 0, 0) nopI) (cond (Nat.beq pc 76) (.istore 6, 2, 78, 0, 6, 0) nopI))) (cond (Nat.ble pc 80) (cond (Nat.ble pc 78) (cond (Nat.beq pc 78) (.iconst 0, 1, 79, 0, 0, 0) nopI) (cond (Nat.beq pc 79) (.istore 7, 2, 81, 0, 7, 0) nopI)) (cond (Nat.ble pc 82) (cond (Nat.beq pc 81) (.iload 7, 2, 83, 0, 7, 0) nopI) (cond (Nat.beq pc 83) (.bipush 8, 2, 85, 8, 0, 0) nopI))))) (cond (Nat.ble pc 99) (cond (Nat.ble pc 92) (cond (Nat.ble pc 88) (cond (Nat.ble pc 87) (cond (Nat.beq pc 85) (.if_icmp .ge 148, 3, 88, 0, 233, 0) nopI) (cond (Nat.beq pc 88) (.iconst 1, 1, 89, 1, 0, 0) nopI)) (cond (Nat.ble pc 90) (cond (Nat.beq pc 89) (.istore 8, 2, 91, 0, 8, 0) nopI) (cond (Nat.beq pc 91) (.iload 8, 2, 93, 0, 8, 0) nopI))) (cond (Nat.ble pc 96) (cond (Nat.ble pc 93) (cond (Nat.beq pc 93) (.iload_n 1, 1, 94, 0, 1, 0) nopI) (cond (Nat.beq pc 94) (.if_icmp .gt 133, 3, 97, 0, 227, 0) nopI)) (cond (Nat.ble pc 97) (cond (Nat.beq pc 97) (.iconst (-1), 1, 98, -1, 0, 0) nopI) (cond (Nat.beq pc 98) (.istore 9, 2, 100, 0, 9, 0) nopI)))) (cond (Nat.ble pc 106) (cond (Nat.ble pc 102) (cond (Nat.ble pc 101) (cond (Nat.beq pc 100) (.iload 9, 2, 102, 0, 9, 0) nopI) (cond (Nat.beq pc 102) (.iconst 2, 1, 103, 2, 0, 0) nopI)) (cond (Nat.ble pc 105) (cond (Nat.beq pc 103) (.if_icmp .ge 118, 3, 106, 0, 221, 0) nopI) (cond (Nat.beq pc 106) (.aload_n 0, 1, 107, 0, 0, 0) nopI))) (cond (Nat.ble pc 109) (cond (Nat.ble pc 108) (cond (Nat.beq pc 107) (.iload 7, 2, 109, 0, 7, 0) nopI) (cond (Nat.beq pc 109) (.iconst 0, 1, 110, 0, 0, 0) nopI)) (cond (Nat.ble pc 112) (cond (Nat.beq pc 110) (.invokevirtual 45, 3, 113, 0, 0, 0) nopI) (cond (Nat.beq pc 113) (.iload 9, 2, 115, 0, 9, 0) nopI))))))) (cond (Nat.ble pc 162) (cond (Nat.ble pc 138) (cond (Nat.ble pc 124) (cond (Nat.ble pc 118) (cond (Nat.ble pc 116) (cond (Nat.beq pc 115) (.iload 8, 2, 117, 0, 8, 0) nopI) (cond (Nat.ble pc 117) (cond (Nat.beq pc 117) (.imul, 1, 118, 0, 0, 0) nopI) (cond (Nat.beq pc 118) (.iadd, 1, 119, 0, 0, 0) nopI))) (cond (Nat.ble pc 122) (cond (Nat.ble pc 120) (cond (Nat.beq pc 119) (.istore 10, 2, 121, 0, 10, 0) nopI) (cond (Nat.beq pc 121) (.bipush 10, 2, 123, 10, 0, 0) nopI)) (cond (Nat.ble pc 123) (cond (Nat.beq pc 123) (.aload_n 0, 1, 124, 0, 0, 0) nopI) (cond (Nat.beq pc 124) (.iconst 5, 1, 125, 5, 0, 0) nopI)))) (cond (Nat.ble pc 132) (cond (Nat.ble pc 129) (cond (Nat.ble pc 127) (cond (Nat.beq pc 125) (.invokevirtual 57, 3, 128, 0, 0, 0) nopI) (cond (Nat.beq pc 128) (.iload 9, 2, 130, 0, 9, 0) nopI)) (cond (Nat.ble pc 131) (cond (Nat.beq pc 130) (.iload 8, 2, 132, 0, 8, 0) nopI) (cond (Nat.beq pc 132) (.imul, 1, 133, 0, 0, 0) nopI))) (cond (Nat.ble pc 136) (cond (Nat.ble pc 134) (cond (Nat.beq pc 133) (.bipush 8, 2, 135, 8, 0, 0) nopI) (cond (Nat.beq pc 135) (.iload 7, 2, 137, 0, 7, 0) nopI)) (cond (Nat.ble pc 137) (cond (Nat.beq pc 137) (.iconst 2, 1, 138, 2, 0, 0) nopI) (cond (Nat.beq pc 138) (.irem, 1, 139, 0, 0, 0) nopI))))) (cond (Nat.ble pc 148) (cond (Nat.ble pc 142) (cond (Nat.ble pc 140) (cond (Nat.ble pc 139) (cond (Nat.beq pc 139) (.imul, 1, 140, 0, 0, 0) nopI) (cond (Nat.beq pc 140) (.iconst 4, 1, 141, 4, 0, 0) nopI)) (cond (Nat.ble pc 141) (cond (Nat.beq pc 141) (.isub, 1, 142, 0, 0, 0) nopI) (cond (Nat.beq pc 142) (.imul, 1, 143, 0, 0, 0) nopI))) (cond (Nat.ble pc 144) (cond (Nat.ble pc 143) (cond (Nat.beq pc 143) (.iadd, 1, 144, 0, 0, 0) nopI) (cond (Nat.beq pc 144) (.imul, 1, 145, 0, 0, 0) nopI)) (cond (Nat.ble pc 146) (cond (Nat.beq pc 145) (.iload 5, 2, 147, 0, 5, 0) nopI) (cond (Nat.beq pc 147) (.iload 9, 2, 149, 0, 9, 0) nopI)))) (cond (Nat.ble pc 153) (cond (Nat.ble pc 151) (cond (Nat.ble pc 150) (cond (Nat.beq pc 149) (.iload 8, 2, 151, 0, 8, 0) nopI) (cond (Nat.beq pc 151) (.imul, 1, 152, 0, 0, 0) nopI)) (cond (Nat.ble pc 152) (cond (Nat.beq pc 152) (.iadd, 1, 153, 0, 0, 0) nopI) (cond (Nat.beq pc 153) (.idiv, 1, 154, 0, 0, 0) nopI))) (cond (Nat.ble pc 157) (cond (Nat.ble pc 155) (cond (Nat.beq pc 154) (.istore 11, 2, 156, 0, 11, 0) nopI) (cond (Nat.beq pc 156) (.iload 6, 2, 158, 0, 6, 0) nopI)) (cond (Nat.ble pc 160) (cond (Nat.beq pc 158) (.ifCond .eq 54, 3, 161, 0, 212, 0) nopI) (cond (Nat.beq pc 161) (.iload 10, 2, 163, 0, 10, 0) nopI)))))) (cond (Nat.ble pc 197) (cond (Nat.ble pc 182) (cond (Nat.ble pc 172) (cond (Nat.ble pc 167) (cond (Nat.ble pc 165) (cond (Nat.beq pc 163) (.ifCond .lt 23, 3, 166, 0, 186, 0) nopI) (cond (Nat.beq pc 166) (.iload 10, 2, 168, 0, 10, 0) nopI)) (cond (Nat.ble pc 169) (cond (Nat.beq pc 168) (.bipush 100, 2, 170, 100, 0, 0) nopI) (cond (Nat.beq pc 170) (.if_icmp .gt 16, 3, 173, 0, 186, 0) nopI))) (cond (Nat.ble pc 177) (cond (Nat.ble pc 174) (cond (Nat.beq pc 173) (.iload 11, 2, 175, 0, 11, 0) nopI) (cond (Nat.beq pc 175) (.invokestatic 54, 3, 178, 0, 0, 0) nopI)) (cond (Nat.ble pc 179) (cond (Nat.beq pc 178) (.iload 4, 2, 180, 0, 4, 0) nopI) (cond (Nat.beq pc 180) (.invokestatic 54, 3, 183, 0, 0, 0) nopI)))) (cond (Nat.ble pc 191) (cond (Nat.ble pc 187) (cond (Nat.ble pc 185) (cond (Nat.beq pc 183) (.if_icmp .lt 29, 3, 186, 0, 212, 0) nopI) (cond (Nat.beq pc 186) (.iload 7, 2, 188, 0, 7, 0) nopI)) (cond (Nat.ble pc 188) (cond (Nat.beq pc 188) (.iload_n 2, 1, 189, 0, 2, 0) nopI) (cond (Nat.beq pc 189) (.if_icmp .ne 19, 3, 192, 0, 208, 0) nopI))) (cond (Nat.ble pc 195) (cond (Nat.ble pc 193) (cond (Nat.beq pc 192) (.iload 9, 2, 194, 0, 9, 0) nopI) (cond (Nat.beq pc 194) (.iload 8, 2, 196, 0, 8, 0) nopI)) (cond (Nat.ble pc 196) (cond (Nat.beq pc 196) (.imul, 1, 197, 0, 0, 0) nopI) (cond (Nat.beq pc 197) (.iload_n 3, 1, 198, 0, 3, 0) nopI))))) (cond (Nat.ble pc 214) (cond (Nat.ble pc 207) (cond (Nat.ble pc 202) (cond (Nat.ble pc 200) (cond (Nat.beq pc 198) (.if_icmp .ne 10, 3, 201, 0, 208, 0) nopI) (cond (Nat.beq pc 201) (.iload 11, 2, 203, 0, 11, 0) nopI)) (cond (Nat.ble pc 204) (cond (Nat.beq pc 203) (.iload 4, 2, 205, 0, 4, 0) nopI) (cond (Nat.beq pc 205) (.if_icmp .ne 7, 3, 208, 0, 212, 0) nopI))) (cond (Nat.ble pc 211) (cond (Nat.ble pc 208) (cond (Nat.beq pc 208) (.iconst 1, 1, 209, 1, 0, 0) nopI) (cond (Nat.beq pc 209) (.goto 4, 3, 212, 0, 213, 0) nopI)) (cond (Nat.ble pc 212) (cond (Nat.beq pc 212) (.iconst 0, 1, 213, 0, 0, 0) nopI) (cond (Nat.beq pc 213) (.istore 6, 2, 215, 0, 6, 0) nopI)))) (cond (Nat.ble pc 226) (cond (Nat.ble pc 220) (cond (Nat.ble pc 217) (cond (Nat.beq pc 215) (.iinc 9 2, 3, 218, 2, 9, 0) nopI) (cond (Nat.beq pc 218) (.goto (-118), 3, 221, 0, 100, 0) nopI)) (cond (Nat.ble pc 223) (cond (Nat.beq pc 221) (.iinc 8 1, 3, 224, 1, 8, 0) nopI) (cond (Nat.beq pc 224) (.goto (-133), 3, 227, 0, 91, 0) nopI))) (cond (Nat.ble pc 232) (cond (Nat.ble pc 229) (cond (Nat.beq pc 227) (.iinc 7 1, 3, 230, 1, 7, 0) nopI) (cond (Nat.beq pc 230) (.goto (-149), 3, 233, 0, 81, 0) nopI)) (cond (Nat.ble pc 234) (cond (Nat.beq pc 233) (.iload 6, 2, 235, 0, 6, 0) nopI) (cond (Nat.beq pc 235) (.ireturn, 1, 236, 0, 0, 0) nopI))))))))
def m_L_isUprightSo : MI := (yL_isUprightSo, cL_isUprightSo, 12, (some .boolean), (4, 95, 3, 9), 236, k_L_isUprightSo)
set_option maxRecDepth 100000 in
theorem ok_L_isUprightSo : MOk m_L_isUprightSo := MOk.of (by decide +kernel) (fun _ => rfl)
theorem om_L_isUprightSo : okM m_L_isUprightSo = true := by decide +kernel
def k_L_isSoundSo (pc : Nat) : Ins := cond (Nat.ble 178 pc) nopI (cond (Nat.ble pc 82) (cond (Nat.ble pc 42) (cond (Nat.ble pc 20) (cond (Nat.ble pc 7) (cond (Nat.ble pc 4) (cond (Nat.ble pc 0) (cond (Nat.beq pc 0) (.aload_n 0, 1, 1, 0, 0, 0) nopI) (cond (Nat.ble pc 1) (cond (Nat.beq pc 1) (.iload_n 1, 1, 2, 0, 1, 0) nopI) (cond (Nat.beq pc 2) (.invokevirtual 39, 3, 5, 0, 0, 0) nopI))) (cond (Nat.ble pc 5) (cond (Nat.beq pc 5) (.istore_n 3, 1, 6, 0, 3, 0) nopI) (cond (Nat.ble pc 6) (cond (Nat.beq pc 6) (.aload_n 0, 1, 7, 0, 0, 0) nopI) (cond (Nat.beq pc 7) (.iload_n 1, 1, 8, 0, 1, 0) nopI)))) (cond (Nat.ble pc 14) (cond (Nat.ble pc 9) (cond (Nat.beq pc 8) (.bipush 6, 2, 10, 6, 0, 0) nopI) (cond (Nat.ble pc 12) (cond (Nat.beq pc 10) (.invokevirtual 45, 3, 13, 0, 0, 0) nopI) (cond (Nat.beq pc 13) (.istore 4, 2, 15, 0, 4, 0) nopI))) (cond (Nat.ble pc 15) (cond (Nat.beq pc 15) (.aload_n 0, 1, 16, 0, 0, 0) nopI) (cond (Nat.ble pc 17) (cond (Nat.beq pc 16) (.bipush 7, 2, 18, 7, 0, 0) nopI) (cond (Nat.beq pc 18) (.invokevirtual 57, 3, 21, 0, 0, 0) nopI))))) (cond (Nat.ble pc 30) (cond (Nat.ble pc 24) (cond (Nat.ble pc 22) (cond (Nat.beq pc 21) (.istore 5, 2, 23, 0, 5, 0) nopI) (cond (Nat.ble pc 23) (cond (Nat.beq pc 23) (.aload_n 0, 1, 24, 0, 0, 0) nopI) (cond (Nat.beq pc 24) (.iload_n 2, 1, 25, 0, 2, 0) nopI))) (cond (Nat.ble pc 27) (cond (Nat.beq pc 25) (.invokevirtual 42, 3, 28, 0, 0, 0) nopI) (cond (Nat.ble pc 29) (cond (Nat.beq pc 28) (.istore 6, 2, 30, 0, 6, 0) nopI) (cond (Nat.beq pc 30) (.aload_n 0, 1, 31, 0, 0, 0) nopI)))) (cond (Nat.ble pc 36) (cond (Nat.ble pc 31) (cond (Nat.beq pc 31) (.iload_n 1, 1, 32, 0, 1, 0) nopI) (cond (Nat.ble pc 33) (cond (Nat.beq pc 32) (.bipush 6, 2, 34, 6, 0, 0) nopI) (cond (Nat.beq pc 34) (.invokevirtual 45, 3, 37, 0, 0, 0) nopI))) (cond (Nat.ble pc 39) (cond (Nat.ble pc 38) (cond (Nat.beq pc 37) (.iload 4, 2, 39, 0, 4, 0) nopI) (cond (Nat.beq pc 39) (.isub, 1, 40, 0, 0, 0) nopI)) (cond (Nat.ble pc 41) (cond (Nat.beq pc 40) (.istore 7, 2, 42, 0, 7, 0) nopI) (cond (Nat.beq pc 42) (.aload_n 0, 1, 43, 0, 0, 0) nopI)))))) (cond (Nat.ble pc 64) (cond (Nat.ble pc 53) (cond (Nat.ble pc 47) (cond (Nat.ble pc 43) (cond (Nat.beq pc 43) (.iload_n 1, 1, 44, 0, 1, 0) nopI) (cond (Nat.ble pc 46) (cond (Nat.beq pc 44) (.invokevirtual 39, 3, 47, 0, 0, 0) nopI) (cond (Nat.beq pc 47) (.iload_n 3, 1, 48, 0, 3, 0) nopI))) (cond (Nat.ble pc 49) (cond (Nat.beq pc 48) (.iload 7, 2, 50, 0, 7, 0) nopI) (cond (Nat.ble pc 50) (cond (Nat.beq pc 50) (.isub, 1, 51, 0, 0, 0) nopI) (cond (Nat.beq pc 51) (.if_icmp .ne 79, 3, 54, 0, 130, 0) nopI)))) (cond (Nat.ble pc 56) (cond (Nat.ble pc 54) (cond (Nat.beq pc 54) (.aload_n 0, 1, 55, 0, 0, 0) nopI) (cond (Nat.ble pc 55) (cond (Nat.beq pc 55) (.iload_n 1, 1, 56, 0, 1, 0) nopI) (cond (Nat.beq pc 56) (.iconst 5, 1, 57, 5, 0, 0) nopI))) (cond (Nat.ble pc 59) (cond (Nat.beq pc 57) (.invokevirtual 45, 3, 60, 0, 0, 0) nopI) (cond (Nat.ble pc 61) (cond (Nat.beq pc 60) (.iload 7, 2, 62, 0, 7, 0) nopI) (cond (Nat.beq pc 62) (.if_icmp .ne 68, 3, 65, 0, 130, 0) nopI))))) (cond (Nat.ble pc 72) (cond (Nat.ble pc 67) (cond (Nat.ble pc 65) (cond (Nat.beq pc 65) (.aload_n 0, 1, 66, 0, 0, 0) nopI) (cond (Nat.ble pc 66) (cond (Nat.beq pc 66) (.iload_n 1, 1, 67, 0, 1, 0) nopI) (cond (Nat.beq pc 67) (.iconst 0, 1, 68, 0, 0, 0) nopI))) (cond (Nat.ble pc 68) (cond (Nat.beq pc 68) (.iconst 0, 1, 69, 0, 0, 0) nopI) (cond (Nat.ble pc 71) (cond (Nat.beq pc 69) (.invokevirtual 73, 3, 72, 0, 0, 0) nopI) (cond (Nat.beq pc 72) (.iload_n 3, 1, 73, 0, 3, 0) nopI)))) (cond (Nat.ble pc 78) (cond (Nat.ble pc 74) (cond (Nat.beq pc 73) (.iload 7, 2, 75, 0, 7, 0) nopI) (cond (Nat.ble pc 75) (cond (Nat.beq pc 75) (.isub, 1, 76, 0, 0, 0) nopI) (cond (Nat.beq pc 76) (.if_icmp .ne 54, 3, 79, 0, 130, 0) nopI))) (cond (Nat.ble pc 80) (cond (Nat.ble pc 79) (cond (Nat.beq pc 79) (.aload_n 0, 1, 80, 0, 0, 0) nopI) (cond (Nat.beq pc 80) (.iload_n 1, 1, 81, 0, 1, 0) nopI)) (cond (Nat.ble pc 81) (cond (Nat.beq pc 81) (.iconst 1, 1, 82, 1, 0, 0) nopI) (cond (Nat.beq pc 82) (.iconst 0, 1, 83, 0, 0, 0) nopI))))))) (cond (Nat.ble pc 126) (cond (Nat.ble pc 103) (cond (Nat.ble pc 92) (cond (Nat.ble pc 89) (cond (Nat.ble pc 85) (cond (Nat.beq pc 83) (.invokevirtual 73, 3, 86, 0, 0, 0) nopI) (cond (Nat.ble pc 86) (cond (Nat.beq pc 86) (.iload_n 3, 1, 87, 0, 3, 0) nopI) (cond (Nat.beq pc 87) (.if_icmp .ne 43, 3, 90, 0, 130, 0) nopI))) (cond (Nat.ble pc 90) (cond (Nat.beq pc 90) (.aload_n 0, 1, 91, 0, 0, 0) nopI) (cond (Nat.ble pc 91) (cond (Nat.beq pc 91) (.iload_n 1, 1, 92, 0, 1, 0) nopI) (cond (Nat.beq pc 92) (.iconst 1, 1, 93, 1, 0, 0) nopI)))) (cond (Nat.ble pc 98) (cond (Nat.ble pc 93) (cond (Nat.beq pc 93) (.iconst 1, 1, 94, 1, 0, 0) nopI) (cond (Nat.ble pc 96) (cond (Nat.beq pc 94) (.invokevirtual 73, 3, 97, 0, 0, 0) nopI) (cond (Nat.beq pc 97) (.iload 5, 2, 99, 0, 5, 0) nopI))) (cond (Nat.ble pc 101) (cond (Nat.beq pc 99) (.if_icmp .ne 31, 3, 102, 0, 130, 0) nopI) (cond (Nat.ble pc 102) (cond (Nat.beq pc 102) (.aload_n 0, 1, 103, 0, 0, 0) nopI) (cond (Nat.beq pc 103) (.iload_n 1, 1, 104, 0, 1, 0) nopI))))) (cond (Nat.ble pc 112) (cond (Nat.ble pc 108) (cond (Nat.ble pc 104) (cond (Nat.beq pc 104) (.iconst 0, 1, 105, 0, 0, 0) nopI) (cond (Nat.ble pc 105) (cond (Nat.beq pc 105) (.iconst 1, 1, 106, 1, 0, 0) nopI) (cond (Nat.beq pc 106) (.invokevirtual 73, 3, 109, 0, 0, 0) nopI))) (cond (Nat.ble pc 110) (cond (Nat.beq pc 109) (.iload 5, 2, 111, 0, 5, 0) nopI) (cond (Nat.ble pc 111) (cond (Nat.beq pc 111) (.iload_n 2, 1, 112, 0, 2, 0) nopI) (cond (Nat.beq pc 112) (.iadd, 1, 113, 0, 0, 0) nopI)))) (cond (Nat.ble pc 117) (cond (Nat.ble pc 115) (cond (Nat.beq pc 113) (.if_icmp .ne 17, 3, 116, 0, 130, 0) nopI) (cond (Nat.ble pc 116) (cond (Nat.beq pc 116) (.aload_n 0, 1, 117, 0, 0, 0) nopI) (cond (Nat.beq pc 117) (.iconst 2, 1, 118, 2, 0, 0) nopI))) (cond (Nat.ble pc 122) (cond (Nat.ble pc 120) (cond (Nat.beq pc 118) (.invokevirtual 57, 3, 121, 0, 0, 0) nopI) (cond (Nat.beq pc 121) (.iload 6, 2, 123, 0, 6, 0) nopI)) (cond (Nat.ble pc 125) (cond (Nat.beq pc 123) (.if_icmp .ne 7, 3, 126, 0, 130, 0) nopI) (cond (Nat.beq pc 126) (.iconst 1, 1, 127, 1, 0, 0) nopI)))))) (cond (Nat.ble pc 150) (cond (Nat.ble pc 138) (cond (Nat.ble pc 132) (cond (Nat.ble pc 129) (cond (Nat.beq pc 127) (.goto 4, 3, 130, 0, 131, 0) nopI) (cond (Nat.ble pc 130) (cond (Nat.beq pc 130) (.iconst 0, 1, 131, 0, 0, 0) nopI) (cond (Nat.beq pc 131) (.istore 8, 2, 133, 0, 8, 0) nopI))) (cond (Nat.ble pc 133) (cond (Nat.beq pc 133) (.aload_n 0, 1, 134, 0, 0, 0) nopI) (cond (Nat.ble pc 136) (cond (Nat.beq pc 134) (.invokevirtual 66, 3, 137, 0, 0, 0) nopI) (cond (Nat.beq pc 137) (.istore 9, 2, 139, 0, 9, 0) nopI)))) (cond (Nat.ble pc 144) (cond (Nat.ble pc 139) (cond (Nat.beq pc 139) (.aload_n 0, 1, 140, 0, 0, 0) nopI) (cond (Nat.ble pc 142) (cond (Nat.beq pc 140) (.invokevirtual 66, 3, 143, 0, 0, 0) nopI) (cond (Nat.beq pc 143) (.istore 9, 2, 145, 0, 9, 0) nopI))) (cond (Nat.ble pc 145) (cond (Nat.beq pc 145) (.aload_n 0, 1, 146, 0, 0, 0) nopI) (cond (Nat.ble pc 148) (cond (Nat.beq pc 146) (.invokevirtual 66, 3, 149, 0, 0, 0) nopI) (cond (Nat.beq pc 149) (.istore 9, 2, 151, 0, 9, 0) nopI))))) (cond (Nat.ble pc 163) (cond (Nat.ble pc 157) (cond (Nat.ble pc 152) (cond (Nat.beq pc 151) (.iload 8, 2, 153, 0, 8, 0) nopI) (cond (Nat.ble pc 155) (cond (Nat.beq pc 153) (.ifCond .eq 23, 3, 156, 0, 176, 0) nopI) (cond (Nat.beq pc 156) (.iload 9, 2, 158, 0, 9, 0) nopI))) (cond (Nat.ble pc 160) (cond (Nat.beq pc 158) (.ifCond .lt 18, 3, 161, 0, 176, 0) nopI) (cond (Nat.ble pc 161) (cond (Nat.beq pc 161) (.aload_n 0, 1, 162, 0, 0, 0) nopI) (cond (Nat.beq pc 162) (.bipush 7, 2, 164, 7, 0, 0) nopI)))) (cond (Nat.ble pc 171) (cond (Nat.ble pc 166) (cond (Nat.beq pc 164) (.invokevirtual 57, 3, 167, 0, 0, 0) nopI) (cond (Nat.ble pc 168) (cond (Nat.beq pc 167) (.iload 5, 2, 169, 0, 5, 0) nopI) (cond (Nat.beq pc 169) (.if_icmp .ne 7, 3, 172, 0, 176, 0) nopI))) (cond (Nat.ble pc 175) (cond (Nat.ble pc 172) (cond (Nat.beq pc 172) (.iconst 1, 1, 173, 1, 0, 0) nopI) (cond (Nat.beq pc 173) (.goto 4, 3, 176, 0, 177, 0) nopI)) (cond (Nat.ble pc 176) (cond (Nat.beq pc 176) (.iconst 0, 1, 177, 0, 0, 0) nopI) (cond (Nat.beq pc 177) (.ireturn, 1, 178, 0, 0, 0) nopI))))))))
def m_L_isSoundSo : MI := (yL_isSoundSo, cL_isSoundSo, 10, (some .boolean), (6, 138, 0, 0), 178, k_L_isSoundSo)
set_option maxRecDepth 100000 in
theorem ok_L_isSoundSo : MOk m_L_isSoundSo := MOk.of (by decide +kernel) (fun _ => rfl)
theorem om_L_isSoundSo : okM m_L_isSoundSo = true := by decide +kernel
def k_L_law (pc : Nat) : Ins := cond (Nat.ble 201 pc) nopI (cond (Nat.ble pc 107) (cond (Nat.ble pc 46) (cond (Nat.ble pc 21) (cond (Nat.ble pc 9) (cond (Nat.ble pc 6) (cond (Nat.ble pc 2) (cond (Nat.beq pc 0) (.new 15, 3, 3, 0, 4, 0) nopI) (cond (Nat.ble pc 3) (cond (Nat.beq pc 3) (.dup, 1, 4, 0, 0, 0) nopI) (cond (Nat.beq pc 4) (.invokespecial 77, 3, 7, 0, 0, 0) nopI))) (cond (Nat.ble pc 7) (cond (Nat.beq pc 7) (.astore_n 1, 1, 8, 0, 1, 0) nopI) (cond (Nat.ble pc 8) (cond (Nat.beq pc 8) (.iconst 0, 1, 9, 0, 0, 0) nopI) (cond (Nat.beq pc 9) (.istore_n 2, 1, 10, 0, 2, 0) nopI)))) (cond (Nat.ble pc 15) (cond (Nat.ble pc 10) (cond (Nat.beq pc 10) (.iload_n 2, 1, 11, 0, 2, 0) nopI) (cond (Nat.ble pc 12) (cond (Nat.beq pc 11) (.bipush 56, 2, 13, 56, 0, 0) nopI) (cond (Nat.beq pc 13) (.if_icmp .ge 186, 3, 16, 0, 199, 0) nopI))) (cond (Nat.ble pc 17) (cond (Nat.ble pc 16) (cond (Nat.beq pc 16) (.aload_n 0, 1, 17, 0, 0, 0) nopI) (cond (Nat.beq pc 17) (.iload_n 2, 1, 18, 0, 2, 0) nopI)) (cond (Nat.ble pc 20) (cond (Nat.beq pc 18) (.invokestatic 78, 3, 21, 0, 0, 0) nopI) (cond (Nat.beq pc 21) (.istore_n 3, 1, 22, 0, 3, 0) nopI))))) (cond (Nat.ble pc 32) (cond (Nat.ble pc 27) (cond (Nat.ble pc 22) (cond (Nat.beq pc 22) (.aload_n 1, 1, 23, 0, 1, 0) nopI) (cond (Nat.ble pc 24) (cond (Nat.beq pc 23) (.bipush 7, 2, 25, 7, 0, 0) nopI) (cond (Nat.beq pc 25) (.invokevirtual 57, 3, 28, 0, 0, 0) nopI))) (cond (Nat.ble pc 29) (cond (Nat.beq pc 28) (.istore 4, 2, 30, 0, 4, 0) nopI) (cond (Nat.ble pc 30) (cond (Nat.beq pc 30) (.aload_n 1, 1, 31, 0, 1, 0) nopI) (cond (Nat.beq pc 31) (.bipush 15, 2, 33, 15, 0, 0) nopI)))) (cond (Nat.ble pc 38) (cond (Nat.ble pc 35) (cond (Nat.beq pc 33) (.invokevirtual 57, 3, 36, 0, 0, 0) nopI) (cond (Nat.ble pc 37) (cond (Nat.beq pc 36) (.istore 5, 2, 38, 0, 5, 0) nopI) (cond (Nat.beq pc 38) (.aload_n 1, 1, 39, 0, 1, 0) nopI))) (cond (Nat.ble pc 42) (cond (Nat.ble pc 39) (cond (Nat.beq pc 39) (.iload_n 3, 1, 40, 0, 3, 0) nopI) (cond (Nat.beq pc 40) (.invokestatic 82, 3, 43, 0, 0, 0) nopI)) (cond (Nat.ble pc 44) (cond (Nat.beq pc 43) (.istore 6, 2, 45, 0, 6, 0) nopI) (cond (Nat.beq pc 45) (.iload 6, 2, 47, 0, 6, 0) nopI)))))) (cond (Nat.ble pc 80) (cond (Nat.ble pc 62) (cond (Nat.ble pc 54) (cond (Nat.ble pc 49) (cond (Nat.beq pc 47) (.sipush (-1000), 3, 50, -1000, 0, 0) nopI) (cond (Nat.ble pc 52) (cond (Nat.beq pc 50) (.if_icmp .ge 31, 3, 53, 0, 81, 0) nopI) (cond (Nat.beq pc 53) (.iload 6, 2, 55, 0, 6, 0) nopI))) (cond (Nat.ble pc 57) (cond (Nat.beq pc 55) (.sipush (-1005), 3, 58, -1005, 0, 0) nopI) (cond (Nat.ble pc 60) (cond (Nat.beq pc 58) (.if_icmp .eq 23, 3, 61, 0, 81, 0) nopI) (cond (Nat.beq pc 61) (.iload 6, 2, 63, 0, 6, 0) nopI)))) (cond (Nat.ble pc 70) (cond (Nat.ble pc 65) (cond (Nat.beq pc 63) (.sipush (-1003), 3, 66, -1003, 0, 0) nopI) (cond (Nat.ble pc 68) (cond (Nat.beq pc 66) (.if_icmp .eq 15, 3, 69, 0, 81, 0) nopI) (cond (Nat.beq pc 69) (.iload 6, 2, 71, 0, 6, 0) nopI))) (cond (Nat.ble pc 76) (cond (Nat.ble pc 73) (cond (Nat.beq pc 71) (.sipush (-1004), 3, 74, -1004, 0, 0) nopI) (cond (Nat.beq pc 74) (.if_icmp .eq 7, 3, 77, 0, 81, 0) nopI)) (cond (Nat.ble pc 77) (cond (Nat.beq pc 77) (.iconst 1, 1, 78, 1, 0, 0) nopI) (cond (Nat.beq pc 78) (.goto 4, 3, 81, 0, 82, 0) nopI))))) (cond (Nat.ble pc 91) (cond (Nat.ble pc 85) (cond (Nat.ble pc 81) (cond (Nat.beq pc 81) (.iconst 0, 1, 82, 0, 0, 0) nopI) (cond (Nat.ble pc 83) (cond (Nat.beq pc 82) (.istore 7, 2, 84, 0, 7, 0) nopI) (cond (Nat.beq pc 84) (.iload 7, 2, 86, 0, 7, 0) nopI))) (cond (Nat.ble pc 88) (cond (Nat.beq pc 86) (.ifCond .ne 105, 3, 89, 0, 191, 0) nopI) (cond (Nat.ble pc 89) (cond (Nat.beq pc 89) (.aload_n 1, 1, 90, 0, 1, 0) nopI) (cond (Nat.beq pc 90) (.bipush 7, 2, 92, 7, 0, 0) nopI)))) (cond (Nat.ble pc 99) (cond (Nat.ble pc 94) (cond (Nat.beq pc 92) (.invokevirtual 57, 3, 95, 0, 0, 0) nopI) (cond (Nat.ble pc 96) (cond (Nat.beq pc 95) (.iload 4, 2, 97, 0, 4, 0) nopI) (cond (Nat.beq pc 97) (.if_icmp .lt 94, 3, 100, 0, 191, 0) nopI))) (cond (Nat.ble pc 102) (cond (Nat.ble pc 100) (cond (Nat.beq pc 100) (.aload_n 1, 1, 101, 0, 1, 0) nopI) (cond (Nat.beq pc 101) (.bipush 15, 2, 103, 15, 0, 0) nopI)) (cond (Nat.ble pc 105) (cond (Nat.beq pc 103) (.invokevirtual 57, 3, 106, 0, 0, 0) nopI) (cond (Nat.beq pc 106) (.iload 5, 2, 108, 0, 5, 0) nopI))))))) (cond (Nat.ble pc 154) (cond (Nat.ble pc 132) (cond (Nat.ble pc 119) (cond (Nat.ble pc 114) (cond (Nat.ble pc 110) (cond (Nat.beq pc 108) (.if_icmp .lt 83, 3, 111, 0, 191, 0) nopI) (cond (Nat.ble pc 111) (cond (Nat.beq pc 111) (.aload_n 1, 1, 112, 0, 1, 0) nopI) (cond (Nat.beq pc 112) (.invokestatic 86, 3, 115, 0, 0, 0) nopI))) (cond (Nat.ble pc 117) (cond (Nat.beq pc 115) (.ifCond .eq 76, 3, 118, 0, 191, 0) nopI) (cond (Nat.ble pc 118) (cond (Nat.beq pc 118) (.iload_n 2, 1, 119, 0, 2, 0) nopI) (cond (Nat.beq pc 119) (.iconst 3, 1, 120, 3, 0, 0) nopI)))) (cond (Nat.ble pc 124) (cond (Nat.ble pc 120) (cond (Nat.beq pc 120) (.irem, 1, 121, 0, 0, 0) nopI) (cond (Nat.ble pc 121) (cond (Nat.beq pc 121) (.iconst 1, 1, 122, 1, 0, 0) nopI) (cond (Nat.beq pc 122) (.if_icmp .ne 10, 3, 125, 0, 132, 0) nopI))) (cond (Nat.ble pc 128) (cond (Nat.ble pc 125) (cond (Nat.beq pc 125) (.aload_n 1, 1, 126, 0, 1, 0) nopI) (cond (Nat.beq pc 126) (.invokestatic 90, 3, 129, 0, 0, 0) nopI)) (cond (Nat.ble pc 131) (cond (Nat.beq pc 129) (.ifCond .eq 62, 3, 132, 0, 191, 0) nopI) (cond (Nat.beq pc 132) (.iload_n 2, 1, 133, 0, 2, 0) nopI))))) (cond (Nat.ble pc 141) (cond (Nat.ble pc 136) (cond (Nat.ble pc 134) (cond (Nat.beq pc 133) (.bipush 9, 2, 135, 9, 0, 0) nopI) (cond (Nat.ble pc 135) (cond (Nat.beq pc 135) (.irem, 1, 136, 0, 0, 0) nopI) (cond (Nat.beq pc 136) (.iconst 5, 1, 137, 5, 0, 0) nopI))) (cond (Nat.ble pc 139) (cond (Nat.beq pc 137) (.if_icmp .ne 21, 3, 140, 0, 158, 0) nopI) (cond (Nat.ble pc 140) (cond (Nat.beq pc 140) (.aload_n 1, 1, 141, 0, 1, 0) nopI) (cond (Nat.beq pc 141) (.iconst 1, 1, 142, 1, 0, 0) nopI)))) (cond (Nat.ble pc 145) (cond (Nat.ble pc 142) (cond (Nat.beq pc 142) (.iload_n 3, 1, 143, 0, 3, 0) nopI) (cond (Nat.ble pc 144) (cond (Nat.beq pc 143) (.bipush 6, 2, 145, 6, 0, 0) nopI) (cond (Nat.beq pc 145) (.ishr, 1, 146, 0, 0, 0) nopI))) (cond (Nat.ble pc 150) (cond (Nat.ble pc 147) (cond (Nat.beq pc 146) (.bipush 20, 2, 148, 20, 0, 0) nopI) (cond (Nat.beq pc 148) (.invokestatic 8, 3, 151, 0, 0, 0) nopI)) (cond (Nat.ble pc 151) (cond (Nat.beq pc 151) (.iadd, 1, 152, 0, 0, 0) nopI) (cond (Nat.beq pc 152) (.invokestatic 93, 3, 155, 0, 0, 0) nopI)))))) (cond (Nat.ble pc 174) (cond (Nat.ble pc 164) (cond (Nat.ble pc 159) (cond (Nat.ble pc 157) (cond (Nat.beq pc 155) (.ifCond .eq 36, 3, 158, 0, 191, 0) nopI) (cond (Nat.ble pc 158) (cond (Nat.beq pc 158) (.iload_n 2, 1, 159, 0, 2, 0) nopI) (cond (Nat.beq pc 159) (.iconst 5, 1, 160, 5, 0, 0) nopI))) (cond (Nat.ble pc 160) (cond (Nat.beq pc 160) (.irem, 1, 161, 0, 0, 0) nopI) (cond (Nat.ble pc 161) (cond (Nat.beq pc 161) (.iconst 2, 1, 162, 2, 0, 0) nopI) (cond (Nat.beq pc 162) (.if_icmp .ne 31, 3, 165, 0, 193, 0) nopI)))) (cond (Nat.ble pc 167) (cond (Nat.ble pc 165) (cond (Nat.beq pc 165) (.aload_n 1, 1, 166, 0, 1, 0) nopI) (cond (Nat.ble pc 166) (cond (Nat.beq pc 166) (.iload_n 3, 1, 167, 0, 3, 0) nopI) (cond (Nat.beq pc 167) (.iconst 5, 1, 168, 5, 0, 0) nopI))) (cond (Nat.ble pc 170) (cond (Nat.ble pc 168) (cond (Nat.beq pc 168) (.ishr, 1, 169, 0, 0, 0) nopI) (cond (Nat.beq pc 169) (.bipush 8, 2, 171, 8, 0, 0) nopI)) (cond (Nat.ble pc 173) (cond (Nat.beq pc 171) (.invokestatic 8, 3, 174, 0, 0, 0) nopI) (cond (Nat.beq pc 174) (.iconst 1, 1, 175, 1, 0, 0) nopI))))) (cond (Nat.ble pc 187) (cond (Nat.ble pc 178) (cond (Nat.ble pc 175) (cond (Nat.beq pc 175) (.iload_n 3, 1, 176, 0, 3, 0) nopI) (cond (Nat.ble pc 177) (cond (Nat.beq pc 176) (.bipush 8, 2, 178, 8, 0, 0) nopI) (cond (Nat.beq pc 178) (.ishr, 1, 179, 0, 0, 0) nopI))) (cond (Nat.ble pc 183) (cond (Nat.ble pc 180) (cond (Nat.beq pc 179) (.bipush 25, 2, 181, 25, 0, 0) nopI) (cond (Nat.beq pc 181) (.invokestatic 8, 3, 184, 0, 0, 0) nopI)) (cond (Nat.ble pc 184) (cond (Nat.beq pc 184) (.iadd, 1, 185, 0, 0, 0) nopI) (cond (Nat.beq pc 185) (.invokestatic 97, 3, 188, 0, 0, 0) nopI)))) (cond (Nat.ble pc 192) (cond (Nat.ble pc 190) (cond (Nat.beq pc 188) (.ifCond .ne 5, 3, 191, 0, 193, 0) nopI) (cond (Nat.ble pc 191) (cond (Nat.beq pc 191) (.iconst 0, 1, 192, 0, 0, 0) nopI) (cond (Nat.beq pc 192) (.ireturn, 1, 193, 0, 0, 0) nopI))) (cond (Nat.ble pc 198) (cond (Nat.ble pc 195) (cond (Nat.beq pc 193) (.iinc 2 1, 3, 196, 1, 2, 0) nopI) (cond (Nat.beq pc 196) (.goto (-186), 3, 199, 0, 10, 0) nopI)) (cond (Nat.ble pc 199) (cond (Nat.beq pc 199) (.iconst 1, 1, 200, 1, 0, 0) nopI) (cond (Nat.beq pc 200) (.ireturn, 1, 201, 0, 0, 0) nopI))))))))
def m_L_law : MI := (yL_law, cL_law, 8, (some .boolean), (8, 195, 600000, 7302250), 201, k_L_law)
set_option maxRecDepth 100000 in
theorem ok_L_law : MOk m_L_law := MOk.of (by decide +kernel) (fun _ => rfl)
end
section
/-! ===== the calls, by program: which link of which class is which method ===== -/
theorem g_X8_9 : okK 3 RX8 9 m_X6_init 0 = true := by decide +kernel
theorem g_X8_18 : okK 4 RX8 18 m_X0_init 0 = true := by decide +kernel
theorem g_X8_29 : okK 4 RX8 29 m_X3_init 0 = true := by decide +kernel
theorem g_X8_34 : okK 1 RX8 34 m_X8_isWithin 3 = true := by decide +kernel
theorem g_X8_38 : okK 0 RX8 38 m_X6_at 1 = true := by decide +kernel
theorem g_X8_42 : okK 0 RX8 42 m_X6_weight 0 = true := by decide +kernel
theorem g_X8_46 : okK 1 RX8 46 m_X6_draughtOf 1 = true := by decide +kernel
theorem g_X8_49 : okK 0 RX8 49 m_X0_record 1 = true := by decide +kernel
theorem g_X8_53 : okK 0 RX8 53 m_X6_put 2 = true := by decide +kernel
theorem g_X8_57 : okK 0 RX8 57 m_X8_change 2 = true := by decide +kernel
theorem g_X8_67 : okK 1 RX8 67 m_X8_isRightBy 2 = true := by decide +kernel
theorem g_X8_71 : okK 1 RX8 71 m_X2_append 3 = true := by decide +kernel
theorem g_X8_89 : okK 1 RX8 89 m_X2_has 2 = true := by decide +kernel
theorem g_X8_93 : okK 1 RX8 93 m_X2_strikeOut 2 = true := by decide +kernel
theorem g_X8_97 : okK 1 RX8 97 m_X2_workFirst 1 = true := by decide +kernel
theorem g_X8_100 : okK 1 RX8 100 m_X1_run 3 = true := by decide +kernel
theorem g_X8_105 : okK 0 RX8 105 m_X6_list 0 = true := by decide +kernel
theorem g_X8_108 : okK 1 RX8 108 m_X5_put 2 = true := by decide +kernel
theorem g_X8_117 : okK 0 RX8 117 m_X3_length 0 = true := by decide +kernel
theorem g_X8_123 : okK 0 RX8 123 m_X0_length 0 = true := by decide +kernel
theorem g_X8_124 : okK 0 RX8 124 m_X0_bringBack 1 = true := by decide +kernel
theorem g_X8_138 : okK 0 RX8 138 m_X6_openTanks 0 = true := by decide +kernel
theorem g_X8_141 : okK 1 RX8 141 m_X6_isIn 2 = true := by decide +kernel
theorem g_X8_144 : okK 0 RX8 144 m_X6_groupsWith 1 = true := by decide +kernel
theorem g_X8_147 : okK 1 RX8 147 m_X5_isLossTold 2 = true := by decide +kernel
theorem g_X8_150 : okK 1 RX8 150 m_X5_loss 2 = true := by decide +kernel
theorem g_X8_153 : okK 1 RX8 153 m_X5_place 2 = true := by decide +kernel
theorem g_X8_156 : okK 0 RX8 156 m_X6_waterIn 1 = true := by decide +kernel
theorem g_X8_159 : okK 1 RX8 159 m_X2_reasonToRefuse 3 = true := by decide +kernel
theorem g_X8_163 : okK 0 RX8 163 m_X6_trimMomentAbout 1 = true := by decide +kernel
theorem g_X8_168 : okK 3 RX8 168 m_X7_init 2 = true := by decide +kernel
theorem g_X8_178 : okK 0 RX8 178 m_X6_trim 0 = true := by decide +kernel
theorem g_X8_181 : okK 0 RX8 181 m_X6_listMoment 0 = true := by decide +kernel
theorem g_X8_184 : okK 0 RX8 184 m_X6_lostByLeaks 0 = true := by decide +kernel
theorem g_X8_187 : okK 1 RX8 187 m_X8_isValve 1 = true := by decide +kernel
theorem g_X0_25 : okK 0 RX0 25 m_X6_copyTo 1 = true := by decide +kernel
theorem g_X0_35 : okK 0 RX0 35 m_X6_copyFrom 1 = true := by decide +kernel
theorem g_X1_9 : okK 0 RX1 9 m_X6_openTanks 0 = true := by decide +kernel
theorem g_X1_15 : okK 0 RX1 15 m_X6_at 1 = true := by decide +kernel
theorem g_X1_19 : okK 0 RX1 19 m_X6_add 2 = true := by decide +kernel
theorem g_X1_23 : okK 1 RX1 23 m_X4_moveUnit 3 = true := by decide +kernel
theorem g_X1_29 : okK 1 RX1 29 m_X1_leakOut 1 = true := by decide +kernel
theorem g_X1_35 : okK 1 RX1 35 m_X1_shiftCargo 1 = true := by decide +kernel
theorem g_X1_44 : okK 0 RX1 44 m_X6_list 0 = true := by decide +kernel
theorem g_X1_50 : okK 0 RX1 50 m_X6_put 2 = true := by decide +kernel
theorem g_X2_11 : okK 0 RX2 11 m_X6_at 1 = true := by decide +kernel
theorem g_X2_15 : okK 1 RX2 15 m_X2_putAt 4 = true := by decide +kernel
theorem g_X2_21 : okK 0 RX2 21 m_X6_put 2 = true := by decide +kernel
theorem g_X2_25 : okK 1 RX2 25 m_X2_takeFirstOff 1 = true := by decide +kernel
theorem g_X2_29 : okK 1 RX2 29 m_X2_reasonToRefuse 3 = true := by decide +kernel
theorem g_X2_33 : okK 0 RX2 33 m_X6_add 2 = true := by decide +kernel
theorem g_X2_36 : okK 2 RX2 36 m_X8_isValve 1 = true := by decide +kernel
theorem g_X2_40 : okK 1 RX2 40 m_X1_run 3 = true := by decide +kernel
theorem g_X2_46 : okK 0 RX2 46 m_X6_openTanks 0 = true := by decide +kernel
theorem g_X2_50 : okK 1 RX2 50 m_X4_tankToFill 2 = true := by decide +kernel
theorem g_X2_56 : okK 1 RX2 56 m_X4_tankToEmpty 2 = true := by decide +kernel
theorem g_X2_59 : okK 1 RX2 59 m_X4_tankToLower 2 = true := by decide +kernel
theorem g_X4_9 : okK 0 RX4 9 m_X6_emptiest 1 = true := by decide +kernel
theorem g_X4_15 : okK 0 RX4 15 m_X6_at 1 = true := by decide +kernel
theorem g_X4_18 : okK 0 RX4 18 m_X6_weight 0 = true := by decide +kernel
theorem g_X4_22 : okK 1 RX4 22 m_X6_draughtOf 1 = true := by decide +kernel
theorem g_X4_25 : okK 0 RX4 25 m_X6_fullest 1 = true := by decide +kernel
theorem g_X4_28 : okK 1 RX4 28 m_X4_tankToFill 2 = true := by decide +kernel
theorem g_X4_34 : okK 1 RX4 34 m_X4_fillUnit 2 = true := by decide +kernel
theorem g_X4_38 : okK 1 RX4 38 m_X4_tankToEmpty 2 = true := by decide +kernel
theorem g_X4_41 : okK 1 RX4 41 m_X4_emptyUnit 2 = true := by decide +kernel
theorem g_X4_44 : okK 1 RX4 44 m_X4_tankToLower 2 = true := by decide +kernel
theorem g_X4_47 : okK 1 RX4 47 m_X4_levelUnit 3 = true := by decide +kernel
theorem g_X4_51 : okK 1 RX4 51 m_X4_moveBy 3 = true := by decide +kernel
theorem g_X4_55 : okK 0 RX4 55 m_X6_add 2 = true := by decide +kernel
theorem g_X5_9 : okK 1 RX5 9 m_X5_place 2 = true := by decide +kernel
theorem g_X5_17 : okK 0 RX5 17 m_X6_at 1 = true := by decide +kernel
theorem g_X5_21 : okK 1 RX5 21 m_X5_putAt 5 = true := by decide +kernel
theorem g_X5_30 : okK 0 RX5 30 m_X6_put 2 = true := by decide +kernel
theorem g_X6_27 : okK 1 RX6 27 m_X6_isIn 2 = true := by decide +kernel
theorem g_X6_31 : okK 0 RX6 31 m_X6_weight 0 = true := by decide +kernel
theorem g_X6_41 : okK 0 RX6 41 m_X6_trimMomentAbout 1 = true := by decide +kernel
theorem g_X6_48 : okK 0 RX6 48 m_X6_listMoment 0 = true := by decide +kernel
theorem g_X6_51 : okK 1 RX6 51 m_X6_listOf 2 = true := by decide +kernel
theorem g_X7_9 : okK 0 RX7 9 m_X6_listMoment 0 = true := by decide +kernel
theorem g_X7_15 : okK 0 RX7 15 m_X6_weight 0 = true := by decide +kernel
theorem g_X7_18 : okK 1 RX7 18 m_X6_listOf 2 = true := by decide +kernel
theorem g_X7_28 : okK 0 RX7 28 m_X6_at 1 = true := by decide +kernel
theorem g_X7_36 : okK 0 RX7 36 m_X7_takeIfBetter 3 = true := by decide +kernel
theorem g_L_8 : okK 1 RL 8 m_L_low 2 = true := by decide +kernel
theorem g_L_14 : okK 0 RL 14 m_X8_load 3 = true := by decide +kernel
theorem g_L_20 : okK 0 RL 20 m_X8_leak 2 = true := by decide +kernel
theorem g_L_23 : okK 0 RL 23 m_X8_setGroup 2 = true := by decide +kernel
theorem g_L_26 : okK 0 RL 26 m_X8_set 2 = true := by decide +kernel
theorem g_L_29 : okK 0 RL 29 m_X8_order 2 = true := by decide +kernel
theorem g_L_32 : okK 0 RL 32 m_X8_strike 1 = true := by decide +kernel
theorem g_L_36 : okK 0 RL 36 m_X8_work 1 = true := by decide +kernel
theorem g_L_39 : okK 0 RL 39 m_X8_sound 1 = true := by decide +kernel
theorem g_L_42 : okK 0 RL 42 m_X8_pass 1 = true := by decide +kernel
theorem g_L_45 : okK 0 RL 45 m_X8_tank 2 = true := by decide +kernel
theorem g_L_48 : okK 0 RL 48 m_X8_group 2 = true := by decide +kernel
theorem g_L_51 : okK 0 RL 51 m_X8_hold 2 = true := by decide +kernel
theorem g_L_54 : okK 1 RL 54 m_L_size 1 = true := by decide +kernel
theorem g_L_57 : okK 0 RL 57 m_X8_count 1 = true := by decide +kernel
theorem g_L_60 : okK 0 RL 60 m_X8_trimMoment 1 = true := by decide +kernel
theorem g_L_63 : okK 0 RL 63 m_X8_waiting 2 = true := by decide +kernel
theorem g_L_66 : okK 0 RL 66 m_X8_undo 0 = true := by decide +kernel
theorem g_L_70 : okK 0 RL 70 m_X8_upright 2 = true := by decide +kernel
theorem g_L_73 : okK 0 RL 73 m_X8_sounding 3 = true := by decide +kernel
theorem g_L_77 : okK 3 RL 77 m_X8_init 0 = true := by decide +kernel
theorem g_L_78 : okK 1 RL 78 m_L_cell 2 = true := by decide +kernel
theorem g_L_82 : okK 1 RL 82 m_L_does 2 = true := by decide +kernel
theorem g_L_86 : okK 1 RL 86 m_L_isBargeSo 1 = true := by decide +kernel
theorem g_L_90 : okK 1 RL 90 m_L_isWorkSo 1 = true := by decide +kernel
theorem g_L_93 : okK 1 RL 93 m_L_isUprightSo 2 = true := by decide +kernel
theorem g_L_97 : okK 1 RL 97 m_L_isSoundSo 3 = true := by decide +kernel
end
section
/-! ===== the heap of the law: the barge at 0; s, L: of the reference that whole has, here nothing ===== -/
abbrev FA : Type := Nat → Int32
/-- the barge beside its cells: rows, next, length; snapshot, hasSnapshot; signs, length, kinds, bys, orders, expected -/
abbrev KS : Type := (Nat → FA) × Int32 × Int32 × FA × Int32 × FA × Int32 × FA × FA × Int32 × Int32
/-- the reference beside its row: before, known, kept, isKept, text, typed, at, isWrong, kind, by -/
abbrev LS9 : Type := FA × Int32 × FA × Int32 × FA × Int32 × Int32 × Int32 × Int32 × Int32
def HP (c : FA) (K : KS) (_ : FA) (_ : LS9) (e : AH) : AH :=
  .inr (.inr (4, [.ref 1, .ref 3, .ref 9, .int K.2.2.2.2.1, .ref 10])) ::
  .inr (.inr (2, [.ref 2])) ::
  .inl (.int, 162, c) ::
  .inr (.inr (0, [.ref 4, .int K.2.1, .int K.2.2.1])) ::
  .inr (.inl (4, fun i => 5 + i)) ::
  .inl (.int, 162, K.1 0) ::
  .inl (.int, 162, K.1 1) ::
  .inl (.int, 162, K.1 2) ::
  .inl (.int, 162, K.1 3) ::
  .inl (.int, 162, K.2.2.2.1) ::
  .inr (.inr (1, [.ref 11, .int K.2.2.2.2.2.2.1, .ref 12, .ref 13, .int K.2.2.2.2.2.2.2.2.2.1, .int K.2.2.2.2.2.2.2.2.2.2])) ::
  .inl (.char, 60, K.2.2.2.2.2.1) ::
  .inl (.int, 60, K.2.2.2.2.2.2.2.1) ::
  .inl (.int, 60, K.2.2.2.2.2.2.2.2.1) ::
  e
theorem HP_len (c : FA) (K : KS) (s : FA) (L : LS9) (e : AH) : (HP c K s L e).length = e.length + 14 := rfl
/-- the static arrays -/
def X0 : AX := fun k => match k with
  | 0 => some (4, fun j => [(-30 : Int32), -10, 10, 30].getD j 0)
  | 1 => some (2, fun j => [(-4 : Int32), 4].getD j 0)
  | 2 => some (3, fun j => [(-20 : Int32), 0, 20].getD j 0)
  | 3 => some (5, fun j => [(3 : Int32), 12, 48, 192, 255].getD j 0)
  | 4 => some (3, fun j => [(1 : Int32), 2, 50].getD j 0)
  | 5 => some (3, fun j => [(4 : Int32), 12, 120].getD j 0)
  | 6 => some (3, fun j => [(9 : Int32), 99, 200].getD j 0)
  | _ => none
theorem Rch.for {M : MI} {X : AX} {Ψ : AS → Prop} (N : Nat) (st : Nat → AS) (step : ∀ n, n < N → Rch M X (st n) (fun τ => τ = st (n + 1))) (k : Rch M X (st N) Ψ) : ∀ n, n ≤ N → Rch M X (st n) Ψ := by
  intro n hn
  obtain ⟨d, hd⟩ : ∃ d, N = n + d := ⟨N - n, by omega⟩
  induction d generalizing n with
  | zero => rw [show n = N by omega]; exact k
  | succ d ih => exact (step n (by omega)).tr fun τ hτ => by rw [hτ]; exact ih (n + 1) (by omega) (by omega)
theorem Rch.ri {M : MI} {X : AX} {Φ : Option Value → AH → Prop} {pc len nx a b : Nat} {v x : Int32} {ls : AL} {h : AH} {cc cs : Nat} {ty : FieldType} (hm : mk M pc = (.ireturn, len, nx, v, a, b)) (hr : mr M = some ty) (hn : narrow ty (.int x) = .int x) (hcc : cc ≤ mC M) (hcs : cs ≤ mS M) (hΦ : Φ (some (.int x)) h) : Rch M X (pc, ls, [.int x], h, cc, cs) (RetP M Φ) :=
  Rch.rf ⟨hcc, hcs, _, Or.inl ⟨by show (mk M pc).1 = _; rw [hm], x, ty, rfl, rfl, hr, hn⟩, hΦ⟩
theorem Rch.rv {M : MI} {X : AX} {Φ : Option Value → AH → Prop} {pc len nx a b : Nat} {v : Int32} {ls : AL} {h : AH} {cc cs : Nat} (hm : mk M pc = (.return_, len, nx, v, a, b)) (hr : mr M = none) (hcc : cc ≤ mC M) (hcs : cs ≤ mS M) (hΦ : Φ none h) : Rch M X (pc, ls, [], h, cc, cs) (RetP M Φ) :=
  Rch.rf ⟨hcc, hcs, _, Or.inr ⟨by show (mk M pc).1 = _; rw [hm], rfl, rfl, hr⟩, hΦ⟩
theorem nj_lt {a b : Nat} (ha : a < 2 ^ 31) (hb : b < 2 ^ 31) : nI a < nI b ↔ a < b := by
  rw [Int32.lt_iff_toInt_lt, nI_toInt ha, nI_toInt hb]; omega
theorem nj_le {a b : Nat} (ha : a < 2 ^ 31) (hb : b < 2 ^ 31) : nI a ≤ nI b ↔ a ≤ b := by
  rw [Int32.le_iff_toInt_le, nI_toInt ha, nI_toInt hb]; omega
theorem nj_inj {a b : Nat} (ha : a < 2 ^ 31) (hb : b < 2 ^ 31) : nI a = nI b ↔ a = b := by
  rw [← Int32.toInt_inj, nI_toInt ha, nI_toInt hb]; omega
/-- the instructions that 'go' passes over -/
def easy (i : Instr) : Bool := match i with
  | .iconst _ => true
  | .bipush _ => true
  | .sipush _ => true
  | .iload _ => true
  | .iload_n _ => true
  | .aload _ => true
  | .aload_n _ => true
  | .istore _ => true
  | .istore_n _ => true
  | .astore_n _ => true
  | .iinc _ _ => true
  | .iadd => true
  | .isub => true
  | .imul => true
  | .iand => true
  | .ior => true
  | .ishl => true
  | .ishr => true
  | .ineg => true
  | .irem => true
  | .i2c => true
  | .dup => true
  | .dup2 => true
  | .goto _ => true
  | .getfield _ => true
  | .putfield _ => true
  | .getstatic _ => true
  | .ifnull _ => true
  | .ifnonnull _ => true
  | .arraylength => true
  | _ => false
def stepU (M : MI) (X : AX) : Nat → AS → Option AS
  | 0, σ => some σ
  | n + 1, σ => match easy (mk M σ.1).1 with
    | false => some σ
    | true => match step1 M X σ with
      | some τ => stepU M X n τ
      | none => none
theorem Rch.goN {M : MI} {X : AX} {Ψ : AS → Prop} (n : Nat) : ∀ {σ τ : AS}, stepU M X n σ = some τ → Rch M X τ Ψ → Rch M X σ Ψ := by
  induction n with
  | zero => intro σ τ h k; cases h; exact k
  | succ n ih =>
    intro σ τ h k
    unfold stepU at h
    split at h
    · cases h; exact k
    · split at h
      · next ρ hρ => exact Rch.st1 hρ (ih h k)
      · cases h
theorem Rch.go {M : MI} {X : AX} {Ψ : AS → Prop} {σ τ : AS} (h : stepU M X 40 σ = some τ) (k : Rch M X τ Ψ) : Rch M X σ Ψ := Rch.goN 40 h k
theorem Rch.eq {M : MI} {X : AX} {Ψ : AS → Prop} {σ τ : AS} (h : τ = σ) (k : Rch M X τ Ψ) : Rch M X σ Ψ := h ▸ k
theorem ij_add {a b : Int32} {x y : Nat} (h1 : a = nI x) (h2 : b = nI y) : a + b = nI (x + y) := by rw [h1, h2, nI_add]
theorem nI_mul (a b : Nat) : nI a * nI b = nI (a * b) := (Int32.ofNat_mul a b).symm
theorem ij_mul {a b : Int32} {x y : Nat} (h1 : a = nI x) (h2 : b = nI y) : a * b = nI (x * y) := by rw [h1, h2, nI_mul]
/-- a loop's counter: within, and at its end -/
theorem lo_in {n N : Nat} (h : n < N) (hN : N < 2 ^ 31) : ¬ nI N ≤ nI n := nI_ge h hN
theorem lo_out {N : Nat} (hN : N < 2 ^ 31) : nI N ≤ nI N := nI_le (Nat.le_refl N) hN
end
section
/-! ===== the barge's cells: what State's methods answer ===== -/
/-- a sum, term by term -/
def fs (a : Int32) (f : Nat → Int32) : Nat → Int32
  | 0 => a
  | n + 1 => fs a f n + f n
abbrev bt (x : Int32) (t : Nat) : Prop := (x >>> (nI t &&& 31)) &&& 1 = 1
def secA (k : Nat) : Int32 := [(-30 : Int32), -10, 10, 30].getD k 0
def sidA (k : Nat) : Int32 := [(-4 : Int32), 4].getD k 0
def hldA (k : Nat) : Int32 := [(-20 : Int32), 0, 20].getD k 0
def wgt (c : FA) : Int32 := fs (fs 400 c 8) (fun h => c (112 + h)) 3
def lostS (c : FA) : Int32 := fs 0 (fun t => c (16 + t)) 8
def tmo (c : FA) (p : Int32) : Int32 := fs (fs (p * (wgt c - 400)) (fun t => c t * (secA (t / 2) - p)) 8) (fun h => c (112 + h) * (hldA h - p)) 3
def lmo (c : FA) : Int32 := fs (fs 0 (fun t => c t * sidA (t % 2)) 8) (fun h => c (112 + h) * c (115 + h)) 3
def lof (m w : Int32) : Int32 := if w ≤ 0 then 0 else 10 * m / w
def lst (c : FA) : Int32 := lof (lmo c) (wgt c)
def wti (c : FA) (x : Int32) : Int32 := fs 0 (fun t => if bt x t then c t else 0) 8
/-- the set of the open tanks, of the first n groups -/
def opn (c : FA) : Nat → Int32
  | 0 => 0
  | n + 1 => if c (123 + n) = 1 then opn c n ||| c (118 + n) else opn c n
def grw (c : FA) (t : Int32) : Nat → Int32
  | 0 => 0
  | n + 1 => if (c (118 + n) >>> (t &&& 31)) &&& 1 = 1 then grw c t n ||| (1 <<< (nI n &&& 31)) else grw c t n
/-- of the first n tanks that are in the set the first with the least water -/
def emp (c : FA) (x : Int32) : Nat → Option Nat
  | 0 => none
  | n + 1 => if bt x n then (match emp c x n with
    | none => some n
    | some k => if c k ≤ c n then some k else some n) else emp c x n
def ful (c : FA) (x : Int32) : Nat → Option Nat
  | 0 => none
  | n + 1 => if bt x n then (match ful c x n with
    | none => some n
    | some k => if c n ≤ c k then some k else some n) else ful c x n
def oI (o : Option Nat) : Int32 := match o with
  | none => -1
  | some k => nI k
theorem emp_lt {c : FA} {x : Int32} {n k : Nat} (h : emp c x n = some k) : k < n := by
  induction n with
  | zero => cases h
  | succ n ih =>
    unfold emp at h
    split at h
    · split at h
      · cases h; omega
      · next k2 hk2 =>
        split at h
        · cases h; have := ih hk2; omega
        · cases h; omega
    · have := ih h; omega
theorem ful_lt {c : FA} {x : Int32} {n k : Nat} (h : ful c x n = some k) : k < n := by
  induction n with
  | zero => cases h
  | succ n ih =>
    unfold ful at h
    split at h
    · split at h
      · cases h; omega
      · next k2 hk2 =>
        split at h
        · cases h; have := ih hk2; omega
        · cases h; omega
    · have := ih h; omega
theorem if10 {p : Prop} [Decidable p] : ((if p then (1 : Int32) else 0) = 0) ↔ ¬ p := by
  by_cases h : p <;> simp [h]
theorem nI_ne1 {k : Nat} (h : k < 2 ^ 31) : ¬ nI k = -1 := by
  intro e
  have := nI_pos h
  rw [e] at this
  exact absurd this (by decide)
theorem nI_div {k d : Nat} (h : k < 2 ^ 31) (hd : d < 2 ^ 31) : nI k / nI d = nI (k / d) := by
  apply Int32.toInt_inj.mp
  have h1 : k / d < 2 ^ 31 := Nat.lt_of_le_of_lt (Nat.div_le_self k d) h
  rw [Int32.toInt_div_of_ne_left _ _ (fun e => by have := nI_pos h; rw [e] at this; exact this (by decide)), nI_toInt h, nI_toInt hd, nI_toInt h1]
  rfl
theorem nI_sub {a b : Nat} (h : b ≤ a) : nI a - nI b = nI (a - b) := by
  have e : nI a = nI (a - b) + nI b := by rw [nI_add]; congr 1; omega
  rw [e, Int32.add_sub_cancel]
theorem nI_rem {k d : Nat} (h : k < 2 ^ 31) (hd : d < 2 ^ 31) : nI k - nI k / nI d * nI d = nI (k % d) := by
  rw [nI_div h hd, nI_mul, nI_sub (Nat.div_mul_le_self k d)]
  congr 1
  have := Nat.div_add_mod k d
  rw [Nat.mul_comm] at this
  omega
section ST
theorem t_X6_at (c : FA) (K : KS) (s : FA) (L : LS9) (e : AH) {i : Int32} {j : Nat} (hi : i = nI j) (hj : j < 162) : Ct m_X6_at X0 [.ref 1, .int i] (HP c K s L e) (fun rv h => rv = some (.int (c j)) ∧ h = HP c K s L e) := by
  subst hi
  refine ⟨ok_X6_at, ?_⟩
  refine Rch.go rfl ?_
  refine Rch.z_lt rfl (fun z => absurd z (nI_pos (by omega))) (fun _ => ?_)
  refine Rch.go rfl ?_
  refine Rch.i_ge rfl (fun z => absurd z (lo_in hj (by decide))) (fun _ => ?_)
  refine Rch.go rfl ?_
  refine Rch.ia rfl rfl rfl (rfl) (by omega) (by decide) ?_
  refine Rch.go rfl ?_
  exact Rch.ri rfl rfl rfl (by decide) (by decide) ⟨rfl, rfl⟩
theorem t_X6_put (c : FA) (K : KS) (s : FA) (L : LS9) (e : AH) {i : Int32} {j : Nat} (x : Int32) (hi : i = nI j) (hj : j < 162) : Ct m_X6_put X0 [.ref 1, .int i, .int x] (HP c K s L e) (fun rv h => rv = none ∧ h = HP (upd c j x) K s L e) := by
  subst hi
  refine ⟨ok_X6_put, ?_⟩
  refine Rch.go rfl ?_
  refine Rch.z_lt rfl (fun z => absurd z (nI_pos (by omega))) (fun _ => ?_)
  refine Rch.go rfl ?_
  refine Rch.i_ge rfl (fun z => absurd z (lo_in hj (by decide))) (fun _ => ?_)
  refine Rch.go rfl ?_
  refine Rch.ias rfl rfl rfl hj (by decide) ?_
  exact Rch.rv rfl rfl (by decide) (by decide) ⟨rfl, rfl⟩
theorem t_X6_add (c : FA) (K : KS) (s : FA) (L : LS9) (e : AH) {i : Int32} {j : Nat} (x : Int32) (hi : i = nI j) (hj : j < 162) : Ct m_X6_add X0 [.ref 1, .int i, .int x] (HP c K s L e) (fun rv h => rv = none ∧ h = HP (upd c j (c j + x)) K s L e) := by
  subst hi
  refine ⟨ok_X6_add, ?_⟩
  refine Rch.go rfl ?_
  refine Rch.z_lt rfl (fun z => absurd z (nI_pos (by omega))) (fun _ => ?_)
  refine Rch.go rfl ?_
  refine Rch.i_ge rfl (fun z => absurd z (lo_in hj (by decide))) (fun _ => ?_)
  refine Rch.go rfl ?_
  refine Rch.ia rfl rfl rfl (rfl) (by omega) (by decide) ?_
  refine Rch.go rfl ?_
  refine Rch.ias rfl rfl rfl hj (by decide) ?_
  exact Rch.rv rfl rfl (by decide) (by decide) ⟨rfl, rfl⟩
theorem t_X6_isIn (x t : Int32) (h0 : AH) : Ct m_X6_isIn X0 [.int x, .int t] h0 (fun rv h => rv = some (.int (if (x >>> (t &&& 31)) &&& 1 = 1 then 1 else 0)) ∧ h = h0) := by
  refine ⟨ok_X6_isIn, ?_⟩
  refine Rch.go rfl ?_
  refine Rch.i_ne rfl (fun z => ?_) (fun z => ?_)
  · refine Rch.go rfl ?_
    exact Rch.ri rfl rfl rfl (by decide) (by decide) ⟨by rw [if_pos z], rfl⟩
  · refine Rch.go rfl ?_
    exact Rch.ri rfl rfl rfl (by decide) (by decide) ⟨by rw [if_neg z], rfl⟩
theorem t_X6_waterIn (c : FA) (K : KS) (s : FA) (L : LS9) (e : AH) (x : Int32) : Ct m_X6_waterIn X0 [.ref 1, .int x] (HP c K s L e) (fun rv h => rv = some (.int (wti c x)) ∧ h = HP c K s L e) := by
  refine ⟨ok_X6_waterIn, ?_⟩
  refine Rch.go rfl ?_
  refine Rch.for 8 (fun n => (7, [(0, .ref 1), (1, .int x), (2, .int (fs 0 (fun t => if bt x t then c t else 0) n)), (3, .int (nI n))], [.int 8, .int (nI n)], HP c K s L e, 0, 0)) (fun n hn => ?_) ?_ 0 (by omega)
  · refine Rch.i_ge rfl (fun z => absurd z (lo_in hn (by decide))) (fun _ => ?_)
    refine Rch.go rfl ?_
    refine Rch.call 1 (t_X6_isIn _ _ _) rfl rfl g_X6_27 om_X6_isIn rfl (fun _ _ _ q => q) rfl rfl rfl rfl ⟨rfl, rfl⟩ ⟨by decide, by decide⟩ (fun _ _ q => by obtain ⟨_, rfl⟩ := q; first | with_reducible rfl | rw [HP_len, HP_len]) (fun rv9 h9 q9 => ?_)
    obtain ⟨rfl, rfl⟩ := q9
    refine Rch.z_eq rfl (fun z => ?_) (fun z => ?_)
    · refine Rch.go rfl (Rch.rf ?_)
      have e1 : fs 0 (fun t => if bt x t then c t else 0) (n + 1) = fs 0 (fun t => if bt x t then c t else 0) n := by
        show fs 0 (fun t => if bt x t then c t else 0) n + (if bt x n then c n else 0) = _
        rw [if_neg (if10.mp z), Int32.add_zero]
      rw [nI_1, ← e1]
      rfl
    · refine Rch.go rfl ?_
      refine Rch.ia rfl rfl rfl ((show (0 : Int32) + nI n = nI n from Int32.zero_add _)) (by omega) (by decide) ?_
      refine Rch.go rfl (Rch.rf ?_)
      rw [nI_1, ← show (if bt x n then c n else 0) = c n from if_pos (Decidable.not_not.mp (fun q => z (if10.mpr q)))]
      rfl
  · refine Rch.i_ge rfl (fun _ => ?_) (fun z => absurd (lo_out (by decide)) z)
    refine Rch.go rfl ?_
    exact Rch.ri rfl rfl rfl (by decide) (by decide) ⟨rfl, rfl⟩
theorem t_X6_lostByLeaks (c : FA) (K : KS) (s : FA) (L : LS9) (e : AH) : Ct m_X6_lostByLeaks X0 [.ref 1] (HP c K s L e) (fun rv h => rv = some (.int (lostS c)) ∧ h = HP c K s L e) := by
  refine ⟨ok_X6_lostByLeaks, ?_⟩
  refine Rch.go rfl ?_
  refine Rch.for 8 (fun n => (7, [(0, .ref 1), (1, .int (fs 0 (fun t => c (16 + t)) n)), (2, .int (nI n))], [.int 8, .int (nI n)], HP c K s L e, 0, 0)) (fun n hn => ?_) ?_ 0 (by omega)
  · refine Rch.i_ge rfl (fun z => absurd z (lo_in hn (by decide))) (fun _ => ?_)
    refine Rch.go rfl ?_
    refine Rch.ia rfl rfl rfl (nI_add 16 n) (by omega) (by decide) ?_
    refine Rch.go rfl (Rch.rf ?_)
    rw [nI_1]
    rfl
  · refine Rch.i_ge rfl (fun _ => ?_) (fun z => absurd (lo_out (by decide)) z)
    refine Rch.go rfl ?_
    exact Rch.ri rfl rfl rfl (by decide) (by decide) ⟨rfl, rfl⟩
theorem t_X6_weight (c : FA) (K : KS) (s : FA) (L : LS9) (e : AH) : Ct m_X6_weight X0 [.ref 1] (HP c K s L e) (fun rv h => rv = some (.int (wgt c)) ∧ h = HP c K s L e) := by
  refine ⟨ok_X6_weight, ?_⟩
  refine Rch.go rfl ?_
  refine Rch.for 8 (fun n => (9, [(0, .ref 1), (1, .int (fs 400 c n)), (2, .int (nI n))], [.int 8, .int (nI n)], HP c K s L e, 0, 0)) (fun n hn => ?_) ?_ 0 (by omega)
  · refine Rch.i_ge rfl (fun z => absurd z (lo_in hn (by decide))) (fun _ => ?_)
    refine Rch.go rfl ?_
    refine Rch.ia rfl rfl rfl ((show (0 : Int32) + nI n = nI n from Int32.zero_add _)) (by omega) (by decide) ?_
    refine Rch.go rfl (Rch.rf ?_)
    rw [nI_1]
    rfl
  · refine Rch.i_ge rfl (fun _ => ?_) (fun z => absurd (lo_out (by decide)) z)
    refine Rch.go rfl ?_
    refine Rch.for 3 (fun n => (33, [(0, .ref 1), (1, .int (fs (fs 400 c 8) (fun h => c (112 + h)) n)), (2, .int (nI n))], [.int 3, .int (nI n)], HP c K s L e, 0, 0)) (fun n hn => ?_) ?_ 0 (by omega)
    · refine Rch.i_ge rfl (fun z => absurd z (lo_in hn (by decide))) (fun _ => ?_)
      refine Rch.go rfl ?_
      refine Rch.ia rfl rfl rfl (nI_add 112 n) (by omega) (by decide) ?_
      refine Rch.go rfl (Rch.rf ?_)
      rw [nI_1]
      rfl
    · refine Rch.i_ge rfl (fun _ => ?_) (fun z => absurd (lo_out (by decide)) z)
      refine Rch.go rfl ?_
      exact Rch.ri rfl rfl rfl (by decide) (by decide) ⟨rfl, rfl⟩
theorem t_X6_trimMomentAbout (c : FA) (K : KS) (s : FA) (L : LS9) (e : AH) (p : Int32) : Ct m_X6_trimMomentAbout X0 [.ref 1, .int p] (HP c K s L e) (fun rv h => rv = some (.int (tmo c p)) ∧ h = HP c K s L e) := by
  refine ⟨ok_X6_trimMomentAbout, ?_⟩
  refine Rch.go rfl ?_
  refine Rch.call 0 (t_X6_weight c K s L e) rfl rfl g_X6_31 om_X6_weight rfl (fun _ _ _ q => q) rfl rfl rfl rfl ⟨rfl, rfl⟩ ⟨by decide, by decide⟩ (fun _ _ q => by obtain ⟨_, rfl⟩ := q; first | with_reducible rfl | rw [HP_len, HP_len]) (fun rv9 h9 q9 => ?_)
  obtain ⟨rfl, rfl⟩ := q9
  refine Rch.go rfl ?_
  refine Rch.for 8 (fun n => (16, [(0, .ref 1), (1, .int p), (2, .int (fs (p * (wgt c - 400)) (fun t => c t * (secA (t / 2) - p)) n)), (3, .int (nI n))], [.int 8, .int (nI n)], HP c K s L e, 0, 0)) (fun n hn => ?_) ?_ 0 (by omega)
  · refine Rch.i_ge rfl (fun z => absurd z (lo_in hn (by decide))) (fun _ => ?_)
    refine Rch.go rfl ?_
    refine Rch.ia rfl rfl rfl ((show (0 : Int32) + nI n = nI n from Int32.zero_add _)) (by omega) (by decide) ?_
    refine Rch.go rfl ?_
    refine Rch.div rfl (by decide) ?_
    refine Rch.xa rfl rfl rfl (nI_div (d := 2) (by omega) (by decide)) (by omega) (by decide) ?_
    refine Rch.go rfl (Rch.rf ?_)
    rw [nI_1]
    rfl
  · refine Rch.i_ge rfl (fun _ => ?_) (fun z => absurd (lo_out (by decide)) z)
    refine Rch.go rfl ?_
    refine Rch.for 3 (fun n => (50, [(0, .ref 1), (1, .int p), (2, .int (fs (fs (p * (wgt c - 400)) (fun t => c t * (secA (t / 2) - p)) 8) (fun h => c (112 + h) * (hldA h - p)) n)), (3, .int (nI n))], [.int 3, .int (nI n)], HP c K s L e, 0, 0)) (fun n hn => ?_) ?_ 0 (by omega)
    · refine Rch.i_ge rfl (fun z => absurd z (lo_in hn (by decide))) (fun _ => ?_)
      refine Rch.go rfl ?_
      refine Rch.ia rfl rfl rfl (nI_add 112 n) (by omega) (by decide) ?_
      refine Rch.go rfl ?_
      refine Rch.xa rfl rfl rfl rfl (by omega) (by decide) ?_
      refine Rch.go rfl (Rch.rf ?_)
      rw [nI_1]
      rfl
    · refine Rch.i_ge rfl (fun _ => ?_) (fun z => absurd (lo_out (by decide)) z)
      refine Rch.go rfl ?_
      exact Rch.ri rfl rfl rfl (by decide) (by decide) ⟨rfl, rfl⟩
theorem t_X6_trim (c : FA) (K : KS) (s : FA) (L : LS9) (e : AH) : Ct m_X6_trim X0 [.ref 1] (HP c K s L e) (fun rv h => rv = some (.int (tmo c 0 / 40)) ∧ h = HP c K s L e) := by
  refine ⟨ok_X6_trim, ?_⟩
  refine Rch.go rfl ?_
  refine Rch.call 0 (t_X6_trimMomentAbout c K s L e _) rfl rfl g_X6_41 om_X6_trimMomentAbout rfl (fun _ _ _ q => q) rfl rfl rfl rfl ⟨rfl, rfl⟩ ⟨by decide, by decide⟩ (fun _ _ q => by obtain ⟨_, rfl⟩ := q; first | with_reducible rfl | rw [HP_len, HP_len]) (fun rv9 h9 q9 => ?_)
  obtain ⟨rfl, rfl⟩ := q9
  refine Rch.go rfl ?_
  refine Rch.div rfl (by decide) ?_
  exact Rch.ri rfl rfl rfl (by decide) (by decide) ⟨rfl, rfl⟩
theorem t_X6_listMoment (c : FA) (K : KS) (s : FA) (L : LS9) (e : AH) : Ct m_X6_listMoment X0 [.ref 1] (HP c K s L e) (fun rv h => rv = some (.int (lmo c)) ∧ h = HP c K s L e) := by
  refine ⟨ok_X6_listMoment, ?_⟩
  refine Rch.go rfl ?_
  refine Rch.for 8 (fun n => (7, [(0, .ref 1), (1, .int (fs 0 (fun t => c t * sidA (t % 2)) n)), (2, .int (nI n))], [.int 8, .int (nI n)], HP c K s L e, 0, 0)) (fun n hn => ?_) ?_ 0 (by omega)
  · refine Rch.i_ge rfl (fun z => absurd z (lo_in hn (by decide))) (fun _ => ?_)
    refine Rch.go rfl ?_
    refine Rch.ia rfl rfl rfl ((show (0 : Int32) + nI n = nI n from Int32.zero_add _)) (by omega) (by decide) ?_
    refine Rch.go rfl ?_
    refine Rch.xa rfl rfl rfl (nI_rem (d := 2) (by omega) (by decide)) (by omega) (by decide) ?_
    refine Rch.go rfl (Rch.rf ?_)
    rw [nI_1]
    rfl
  · refine Rch.i_ge rfl (fun _ => ?_) (fun z => absurd (lo_out (by decide)) z)
    refine Rch.go rfl ?_
    refine Rch.for 3 (fun n => (39, [(0, .ref 1), (1, .int (fs (fs 0 (fun t => c t * sidA (t % 2)) 8) (fun h => c (112 + h) * c (115 + h)) n)), (2, .int (nI n))], [.int 3, .int (nI n)], HP c K s L e, 0, 0)) (fun n hn => ?_) ?_ 0 (by omega)
    · refine Rch.i_ge rfl (fun z => absurd z (lo_in hn (by decide))) (fun _ => ?_)
      refine Rch.go rfl ?_
      refine Rch.ia rfl rfl rfl (nI_add 112 n) (by omega) (by decide) ?_
      refine Rch.go rfl ?_
      refine Rch.ia rfl rfl rfl (nI_add 115 n) (by omega) (by decide) ?_
      refine Rch.go rfl (Rch.rf ?_)
      rw [nI_1]
      rfl
    · refine Rch.i_ge rfl (fun _ => ?_) (fun z => absurd (lo_out (by decide)) z)
      refine Rch.go rfl ?_
      exact Rch.ri rfl rfl rfl (by decide) (by decide) ⟨rfl, rfl⟩
theorem t_X6_listOf (m w : Int32) (h0 : AH) : Ct m_X6_listOf X0 [.int m, .int w] h0 (fun rv h => rv = some (.int (lof m w)) ∧ h = h0) := by
  refine ⟨ok_X6_listOf, ?_⟩
  refine Rch.go rfl ?_
  refine Rch.z_le rfl (fun z => ?_) (fun z => ?_)
  · refine Rch.go rfl ?_
    exact Rch.ri rfl rfl rfl (by decide) (by decide) ⟨by unfold lof; rw [if_pos z], rfl⟩
  · refine Rch.go rfl ?_
    refine Rch.div rfl (fun q => z (by rw [q]; exact Int32.le_refl _)) ?_
    refine Rch.go rfl ?_
    exact Rch.ri rfl rfl rfl (by decide) (by decide) ⟨by unfold lof; rw [if_neg z], rfl⟩
theorem t_X6_list (c : FA) (K : KS) (s : FA) (L : LS9) (e : AH) : Ct m_X6_list X0 [.ref 1] (HP c K s L e) (fun rv h => rv = some (.int (lst c)) ∧ h = HP c K s L e) := by
  refine ⟨ok_X6_list, ?_⟩
  refine Rch.go rfl ?_
  refine Rch.call 0 (t_X6_listMoment c K s L e) rfl rfl g_X6_48 om_X6_listMoment rfl (fun _ _ _ q => q) rfl rfl rfl rfl ⟨rfl, rfl⟩ ⟨by decide, by decide⟩ (fun _ _ q => by obtain ⟨_, rfl⟩ := q; first | with_reducible rfl | rw [HP_len, HP_len]) (fun rv9 h9 q9 => ?_)
  obtain ⟨rfl, rfl⟩ := q9
  refine Rch.go rfl ?_
  refine Rch.call 0 (t_X6_weight c K s L e) rfl rfl g_X6_31 om_X6_weight rfl (fun _ _ _ q => q) rfl rfl rfl rfl ⟨rfl, rfl⟩ ⟨by decide, by decide⟩ (fun _ _ q => by obtain ⟨_, rfl⟩ := q; first | with_reducible rfl | rw [HP_len, HP_len]) (fun rv9 h9 q9 => ?_)
  obtain ⟨rfl, rfl⟩ := q9
  refine Rch.go rfl ?_
  refine Rch.call 1 (t_X6_listOf _ _ _) rfl rfl g_X6_51 om_X6_listOf rfl (fun _ _ _ q => q) rfl rfl rfl rfl ⟨rfl, rfl⟩ ⟨by decide, by decide⟩ (fun _ _ q => by obtain ⟨_, rfl⟩ := q; first | with_reducible rfl | rw [HP_len, HP_len]) (fun rv9 h9 q9 => ?_)
  obtain ⟨rfl, rfl⟩ := q9
  exact Rch.ri rfl rfl rfl (by decide) (by decide) ⟨rfl, rfl⟩
theorem t_X6_draughtOf (w : Int32) (h0 : AH) : Ct m_X6_draughtOf X0 [.int w] h0 (fun rv h => rv = some (.int (w / 10)) ∧ h = h0) := by
  refine ⟨ok_X6_draughtOf, ?_⟩
  refine Rch.go rfl ?_
  refine Rch.div rfl (by decide) ?_
  exact Rch.ri rfl rfl rfl (by decide) (by decide) ⟨rfl, rfl⟩
theorem t_X6_openTanks (c : FA) (K : KS) (s : FA) (L : LS9) (e : AH) : Ct m_X6_openTanks X0 [.ref 1] (HP c K s L e) (fun rv h => rv = some (.int (opn c 5)) ∧ h = HP c K s L e) := by
  refine ⟨ok_X6_openTanks, ?_⟩
  refine Rch.go rfl ?_
  refine Rch.for 5 (fun n => (6, [(0, .ref 1), (1, .int (opn c n)), (2, .int (nI n))], [.int 5, .int (nI n)], HP c K s L e, 0, 0)) (fun n hn => ?_) ?_ 0 (by omega)
  · refine Rch.i_ge rfl (fun z => absurd z (lo_in hn (by decide))) (fun _ => ?_)
    refine Rch.go rfl ?_
    refine Rch.ia rfl rfl rfl (nI_add 123 n) (by omega) (by decide) ?_
    refine Rch.go rfl ?_
    refine Rch.i_ne rfl (fun z => ?_) (fun z => ?_)
    · refine Rch.go rfl ?_
      refine Rch.ia rfl rfl rfl (nI_add 118 n) (by omega) (by decide) ?_
      refine Rch.go rfl (Rch.rf ?_)
      rw [nI_1, ← show opn c (n + 1) = _ from if_pos z]
      rfl
    · refine Rch.go rfl (Rch.rf ?_)
      rw [nI_1, ← show opn c (n + 1) = _ from if_neg z]
      rfl
  · refine Rch.i_ge rfl (fun _ => ?_) (fun z => absurd (lo_out (by decide)) z)
    refine Rch.go rfl ?_
    exact Rch.ri rfl rfl rfl (by decide) (by decide) ⟨rfl, rfl⟩
theorem t_X6_groupsWith (c : FA) (K : KS) (s : FA) (L : LS9) (e : AH) (t : Int32) : Ct m_X6_groupsWith X0 [.ref 1, .int t] (HP c K s L e) (fun rv h => rv = some (.int (grw c t 5)) ∧ h = HP c K s L e) := by
  refine ⟨ok_X6_groupsWith, ?_⟩
  refine Rch.go rfl ?_
  refine Rch.for 5 (fun n => (6, [(0, .ref 1), (1, .int t), (2, .int (grw c t n)), (3, .int (nI n))], [.int 5, .int (nI n)], HP c K s L e, 0, 0)) (fun n hn => ?_) ?_ 0 (by omega)
  · refine Rch.i_ge rfl (fun z => absurd z (lo_in hn (by decide))) (fun _ => ?_)
    refine Rch.go rfl ?_
    refine Rch.ia rfl rfl rfl (nI_add 118 n) (by omega) (by decide) ?_
    refine Rch.go rfl ?_
    refine Rch.call 1 (t_X6_isIn _ _ _) rfl rfl g_X6_27 om_X6_isIn rfl (fun _ _ _ q => q) rfl rfl rfl rfl ⟨rfl, rfl⟩ ⟨by decide, by decide⟩ (fun _ _ q => by obtain ⟨_, rfl⟩ := q; first | with_reducible rfl | rw [HP_len, HP_len]) (fun rv9 h9 q9 => ?_)
    obtain ⟨rfl, rfl⟩ := q9
    refine Rch.z_eq rfl (fun z => ?_) (fun z => ?_)
    · refine Rch.go rfl (Rch.rf ?_)
      rw [nI_1, ← show grw c t (n + 1) = _ from if_neg (if10.mp z)]
      rfl
    · refine Rch.go rfl (Rch.rf ?_)
      rw [nI_1, ← show grw c t (n + 1) = _ from if_pos (Decidable.not_not.mp (fun q => z (if10.mpr q)))]
      rfl
  · refine Rch.i_ge rfl (fun _ => ?_) (fun z => absurd (lo_out (by decide)) z)
    refine Rch.go rfl ?_
    exact Rch.ri rfl rfl rfl (by decide) (by decide) ⟨rfl, rfl⟩
theorem t_X6_emptiest (c : FA) (K : KS) (s : FA) (L : LS9) (e : AH) (x : Int32) : Ct m_X6_emptiest X0 [.ref 1, .int x] (HP c K s L e) (fun rv h => rv = some (.int (oI (emp c x 8))) ∧ h = HP c K s L e) := by
  refine ⟨ok_X6_emptiest, ?_⟩
  refine Rch.go rfl ?_
  refine Rch.for 8 (fun n => (7, [(0, .ref 1), (1, .int x), (2, .int (oI (emp c x n))), (3, .int (nI n))], [.int 8, .int (nI n)], HP c K s L e, 0, 0)) (fun n hn => ?_) ?_ 0 (by omega)
  · refine Rch.i_ge rfl (fun z => absurd z (lo_in hn (by decide))) (fun _ => ?_)
    refine Rch.go rfl ?_
    refine Rch.call 1 (t_X6_isIn _ _ _) rfl rfl g_X6_27 om_X6_isIn rfl (fun _ _ _ q => q) rfl rfl rfl rfl ⟨rfl, rfl⟩ ⟨by decide, by decide⟩ (fun _ _ q => by obtain ⟨_, rfl⟩ := q; first | with_reducible rfl | rw [HP_len, HP_len]) (fun rv9 h9 q9 => ?_)
    obtain ⟨rfl, rfl⟩ := q9
    refine Rch.z_eq rfl (fun z => ?_) (fun z => ?_)
    · refine Rch.go rfl (Rch.rf ?_)
      rw [nI_1, ← show emp c x (n + 1) = _ from if_neg (if10.mp z)]
      rfl
    · have hb : bt x n := Decidable.not_not.mp (fun q => z (if10.mpr q))
      have e1 : emp c x (n + 1) = (match emp c x n with | none => some n | some k => if c k ≤ c n then some k else some n) := if_pos hb
      refine Rch.go rfl ?_
      cases hk : emp c x n with
      | none =>
        rw [hk] at e1
        refine Rch.i_eq rfl (fun _ => ?_) (fun q => absurd rfl q)
        refine Rch.go rfl (Rch.rf ?_)
        rw [nI_1, ← show oI (emp c x (n + 1)) = nI n by rw [e1]; rfl]
        rfl
      | some k =>
        rw [hk] at e1
        have hlt := emp_lt hk
        refine Rch.i_eq rfl (fun q => absurd q (nI_ne1 (by omega))) (fun _ => ?_)
        refine Rch.go rfl ?_
        refine Rch.ia rfl rfl rfl ((show (0 : Int32) + nI n = nI n from Int32.zero_add _)) (by omega) (by decide) ?_
        refine Rch.go rfl ?_
        refine Rch.ia rfl rfl rfl ((show (0 : Int32) + nI k = nI k from Int32.zero_add _)) (by omega) (by decide) ?_
        refine Rch.i_ge rfl (fun w => ?_) (fun w => ?_)
        · refine Rch.go rfl (Rch.rf ?_)
          rw [nI_1]
          show _ = (_, _)
          rw [show emp c x (n + 1) = some k by rw [e1]; dsimp only; rw [if_pos w]]
          rfl
        · refine Rch.go rfl (Rch.rf ?_)
          rw [nI_1]
          show _ = (_, _)
          rw [show emp c x (n + 1) = some n by rw [e1]; dsimp only; rw [if_neg w]]
          rfl
  · refine Rch.i_ge rfl (fun _ => ?_) (fun z => absurd (lo_out (by decide)) z)
    refine Rch.go rfl ?_
    exact Rch.ri rfl rfl rfl (by decide) (by decide) ⟨rfl, rfl⟩
theorem t_X6_fullest (c : FA) (K : KS) (s : FA) (L : LS9) (e : AH) (x : Int32) : Ct m_X6_fullest X0 [.ref 1, .int x] (HP c K s L e) (fun rv h => rv = some (.int (oI (ful c x 8))) ∧ h = HP c K s L e) := by
  refine ⟨ok_X6_fullest, ?_⟩
  refine Rch.go rfl ?_
  refine Rch.for 8 (fun n => (7, [(0, .ref 1), (1, .int x), (2, .int (oI (ful c x n))), (3, .int (nI n))], [.int 8, .int (nI n)], HP c K s L e, 0, 0)) (fun n hn => ?_) ?_ 0 (by omega)
  · refine Rch.i_ge rfl (fun z => absurd z (lo_in hn (by decide))) (fun _ => ?_)
    refine Rch.go rfl ?_
    refine Rch.call 1 (t_X6_isIn _ _ _) rfl rfl g_X6_27 om_X6_isIn rfl (fun _ _ _ q => q) rfl rfl rfl rfl ⟨rfl, rfl⟩ ⟨by decide, by decide⟩ (fun _ _ q => by obtain ⟨_, rfl⟩ := q; first | with_reducible rfl | rw [HP_len, HP_len]) (fun rv9 h9 q9 => ?_)
    obtain ⟨rfl, rfl⟩ := q9
    refine Rch.z_eq rfl (fun z => ?_) (fun z => ?_)
    · refine Rch.go rfl (Rch.rf ?_)
      rw [nI_1, ← show ful c x (n + 1) = _ from if_neg (if10.mp z)]
      rfl
    · have hb : bt x n := Decidable.not_not.mp (fun q => z (if10.mpr q))
      have e1 : ful c x (n + 1) = (match ful c x n with | none => some n | some k => if c n ≤ c k then some k else some n) := if_pos hb
      refine Rch.go rfl ?_
      cases hk : ful c x n with
      | none =>
        rw [hk] at e1
        refine Rch.i_eq rfl (fun _ => ?_) (fun q => absurd rfl q)
        refine Rch.go rfl (Rch.rf ?_)
        rw [nI_1, ← show oI (ful c x (n + 1)) = nI n by rw [e1]; rfl]
        rfl
      | some k =>
        rw [hk] at e1
        have hlt := ful_lt hk
        refine Rch.i_eq rfl (fun q => absurd q (nI_ne1 (by omega))) (fun _ => ?_)
        refine Rch.go rfl ?_
        refine Rch.ia rfl rfl rfl ((show (0 : Int32) + nI n = nI n from Int32.zero_add _)) (by omega) (by decide) ?_
        refine Rch.go rfl ?_
        refine Rch.ia rfl rfl rfl ((show (0 : Int32) + nI k = nI k from Int32.zero_add _)) (by omega) (by decide) ?_
        refine Rch.i_le rfl (fun w => ?_) (fun w => ?_)
        · refine Rch.go rfl (Rch.rf ?_)
          rw [nI_1]
          show _ = (_, _)
          rw [show ful c x (n + 1) = some k by rw [e1]; dsimp only; rw [if_pos w]]
          rfl
        · refine Rch.go rfl (Rch.rf ?_)
          rw [nI_1]
          show _ = (_, _)
          rw [show ful c x (n + 1) = some n by rw [e1]; dsimp only; rw [if_neg w]]
          rfl
  · refine Rch.i_ge rfl (fun _ => ?_) (fun z => absurd (lo_out (by decide)) z)
    refine Rch.go rfl ?_
    exact Rch.ri rfl rfl rfl (by decide) (by decide) ⟨rfl, rfl⟩
end ST
end
section
/-! ===== the pump, minutes: what they do to the barge's cells ===== -/
def ad (c : FA) (j : Nat) (v : Int32) : FA := upd c j (c j + v)
def abi (x : Int32) : Int32 := if 0 ≤ x then x else 0 - x
def tfi (c : FA) (x : Int32) : Option Nat := match emp c x 8 with
  | none => none
  | some k => if c k < 100 then (if (wgt c + 1) / 10 ≤ c 130 then some k else none) else none
def tem (c : FA) (x : Int32) : Option Nat := match ful c x 8 with
  | none => none
  | some k => if 0 < c k then some k else none
def tlo (c : FA) (x : Int32) : Option Nat := match ful c x 8 with
  | none => none
  | some f => match emp c x 8 with
    | none => none
    | some t => if c f - c t < 2 then none else some f
def mvb (c : FA) (k : Nat) (u : Int32) : FA := ad (ad c k u) (24 + k) 1
def mfu (c : FA) (o : Option Nat) : Option FA := match o with
  | none => none
  | some k => some (ad (mvb c k 1) 157 1)
def meu (c : FA) (o : Option Nat) : Option FA := match o with
  | none => none
  | some k => some (ad (mvb c k (-1)) 158 1)
def mlu (c : FA) (o o2 : Option Nat) : Option FA := match o with
  | none => none
  | some f => match o2 with
    | none => none
    | some t => some (ad (mvb (mvb c f (-1)) t 1) 159 1)
def mvu (m : Int32) (c : FA) (x : Int32) : Option FA :=
  if m = 2 then mfu c (tfi c x) else if m = 3 then meu c (tem c x) else if m = 4 then mlu c (tlo c x) (emp c x 8) else none
def mvr (o : Option FA) : Int32 := match o with
  | none => 0
  | some _ => 1
def mvc (c : FA) (o : Option FA) : FA := match o with
  | none => c
  | some d => d
def pmp (m x : Int32) : Nat → FA → FA
  | 0, c => c
  | d + 1, c => match mvu m c x with
    | some c' => pmp m x d c'
    | none => c
def lk (c : FA) : Nat → FA
  | 0 => c
  | n + 1 => ad (ad (lk c n) n (-(if lk c n n < lk c n (8 + n) then lk c n n else lk c n (8 + n)))) (16 + n) (if lk c n n < lk c n (8 + n) then lk c n n else lk c n (8 + n))
def shl (c : FA) (st : Int32) : Nat → FA
  | 0 => c
  | n + 1 => if 0 < shl c st n (112 + n) ∧ abi (shl c st n (115 + n) + st) ≤ 3 then ad (upd (shl c st n) (115 + n) (shl c st n (115 + n) + st)) 161 1 else shl c st n
def shf (c : FA) : FA := if c 129 < abi (lst c) then shl c (if 0 ≤ lst c then 1 else -1) 3 else c
def lkm (c : FA) : FA := if c 156 - c 156 / 10 * 10 = 0 then lk c 8 else c
/-- a minute of the pump's mode m over the open tanks x, at most r units -/
def mnt (m x : Int32) (r : Nat) (c : FA) : FA := shf (lkm (pmp m x r (ad c 156 1)))
def mns (m x : Int32) (r : Nat) (c : FA) : Nat → FA
  | 0 => c
  | n + 1 => mnt m x r (mns m x r c n)
theorem zadd (n : Nat) : (0 : Int32) + nI n = nI n := Int32.zero_add _
theorem tfi_lt {c : FA} {x : Int32} {k : Nat} (h : tfi c x = some k) : k < 8 := by
  unfold tfi at h
  split at h
  · cases h
  · next k2 hk =>
    split at h
    · split at h
      · cases h; exact emp_lt hk
      · cases h
    · cases h
theorem tem_lt {c : FA} {x : Int32} {k : Nat} (h : tem c x = some k) : k < 8 := by
  unfold tem at h
  split at h
  · cases h
  · next k2 hk =>
    split at h
    · cases h; exact ful_lt hk
    · cases h
theorem tlo_lt {c : FA} {x : Int32} {k : Nat} (h : tlo c x = some k) : k < 8 := by
  unfold tlo at h
  split at h
  · cases h
  · next k2 hk =>
    split at h
    · cases h
    · split at h
      · cases h
      · cases h; exact ful_lt hk
theorem nlt_le {a b : Int32} (h : ¬ a < b) : b ≤ a := Int32.not_lt.mp h
theorem nle_lt {a b : Int32} (h : ¬ a ≤ b) : b < a := Int32.not_le.mp h
section PU
theorem t_X4_tankToFill (c : FA) (K : KS) (s : FA) (L : LS9) (e : AH) (x : Int32) : Ct m_X4_tankToFill X0 [.ref 1, .int x] (HP c K s L e) (fun rv h => rv = some (.int (oI (tfi c x))) ∧ h = HP c K s L e) := by
  refine ⟨ok_X4_tankToFill, ?_⟩
  refine Rch.go rfl ?_
  refine Rch.call 0 (t_X6_emptiest c K s L e x) rfl rfl g_X4_9 om_X6_emptiest rfl (fun _ _ _ q => q) rfl rfl rfl rfl ⟨rfl, rfl⟩ ⟨by decide, by decide⟩ (fun _ _ q => by obtain ⟨_, rfl⟩ := q; first | with_reducible rfl | rw [HP_len, HP_len]) (fun rv9 h9 q9 => ?_)
  obtain ⟨rfl, rfl⟩ := q9
  refine Rch.go rfl ?_
  cases hk : emp c x 8 with
  | none =>
    have e1 : tfi c x = none := by unfold tfi; rw [hk]
    rw [e1]
    refine Rch.i_eq rfl (fun _ => ?_) (fun q => absurd rfl q)
    refine Rch.go rfl ?_
    exact Rch.ri rfl rfl rfl (by decide) (by decide) ⟨rfl, rfl⟩
  | some k =>
    have hlt := emp_lt hk
    have e1 : tfi c x = if c k < 100 then (if (wgt c + 1) / 10 ≤ c 130 then some k else none) else none := by unfold tfi; rw [hk]
    refine Rch.i_eq rfl (fun q => absurd q (nI_ne1 (by omega))) (fun _ => ?_)
    refine Rch.go rfl ?_
    refine Rch.call 0 (t_X6_at c K s L e (zadd k) (by omega)) rfl rfl g_X4_15 om_X6_at rfl (fun _ _ _ q => q) rfl rfl rfl rfl ⟨rfl, rfl⟩ ⟨by decide, by decide⟩ (fun _ _ q => by obtain ⟨_, rfl⟩ := q; first | with_reducible rfl | rw [HP_len, HP_len]) (fun rv9 h9 q9 => ?_)
    obtain ⟨rfl, rfl⟩ := q9
    refine Rch.go rfl ?_
    refine Rch.i_lt rfl (fun z => ?_) (fun z => ?_)
    · rw [if_pos z] at e1
      refine Rch.go rfl ?_
      refine Rch.call 0 (t_X6_weight c K s L e) rfl rfl g_X4_18 om_X6_weight rfl (fun _ _ _ q => q) rfl rfl rfl rfl ⟨rfl, rfl⟩ ⟨by decide, by decide⟩ (fun _ _ q => by obtain ⟨_, rfl⟩ := q; first | with_reducible rfl | rw [HP_len, HP_len]) (fun rv9 h9 q9 => ?_)
      obtain ⟨rfl, rfl⟩ := q9
      refine Rch.go rfl ?_
      refine Rch.call 1 (t_X6_draughtOf _ _) rfl rfl g_X4_22 om_X6_draughtOf rfl (fun _ _ _ q => q) rfl rfl rfl rfl ⟨rfl, rfl⟩ ⟨by decide, by decide⟩ (fun _ _ q => by obtain ⟨_, rfl⟩ := q; first | with_reducible rfl | rw [HP_len, HP_len]) (fun rv9 h9 q9 => ?_)
      obtain ⟨rfl, rfl⟩ := q9
      refine Rch.go rfl ?_
      refine Rch.call 0 (t_X6_at c K s L e (j := 130) rfl (by decide)) rfl rfl g_X4_15 om_X6_at rfl (fun _ _ _ q => q) rfl rfl rfl rfl ⟨rfl, rfl⟩ ⟨by decide, by decide⟩ (fun _ _ q => by obtain ⟨_, rfl⟩ := q; first | with_reducible rfl | rw [HP_len, HP_len]) (fun rv9 h9 q9 => ?_)
      obtain ⟨rfl, rfl⟩ := q9
      refine Rch.i_le rfl (fun w => ?_) (fun w => ?_)
      · rw [if_pos w] at e1
        rw [e1]
        refine Rch.go rfl ?_
        exact Rch.ri rfl rfl rfl (by decide) (by decide) ⟨rfl, rfl⟩
      · rw [if_neg w] at e1
        rw [e1]
        refine Rch.go rfl ?_
        exact Rch.ri rfl rfl rfl (by decide) (by decide) ⟨rfl, rfl⟩
    · rw [if_neg z] at e1
      rw [e1]
      refine Rch.go rfl ?_
      exact Rch.ri rfl rfl rfl (by decide) (by decide) ⟨rfl, rfl⟩
theorem t_X4_tankToEmpty (c : FA) (K : KS) (s : FA) (L : LS9) (e : AH) (x : Int32) : Ct m_X4_tankToEmpty X0 [.ref 1, .int x] (HP c K s L e) (fun rv h => rv = some (.int (oI (tem c x))) ∧ h = HP c K s L e) := by
  refine ⟨ok_X4_tankToEmpty, ?_⟩
  refine Rch.go rfl ?_
  refine Rch.call 0 (t_X6_fullest c K s L e x) rfl rfl g_X4_25 om_X6_fullest rfl (fun _ _ _ q => q) rfl rfl rfl rfl ⟨rfl, rfl⟩ ⟨by decide, by decide⟩ (fun _ _ q => by obtain ⟨_, rfl⟩ := q; first | with_reducible rfl | rw [HP_len, HP_len]) (fun rv9 h9 q9 => ?_)
  obtain ⟨rfl, rfl⟩ := q9
  refine Rch.go rfl ?_
  cases hk : ful c x 8 with
  | none =>
    have e1 : tem c x = none := by unfold tem; rw [hk]
    rw [e1]
    refine Rch.i_eq rfl (fun _ => ?_) (fun q => absurd rfl q)
    refine Rch.go rfl ?_
    exact Rch.ri rfl rfl rfl (by decide) (by decide) ⟨rfl, rfl⟩
  | some k =>
    have hlt := ful_lt hk
    have e1 : tem c x = if 0 < c k then some k else none := by unfold tem; rw [hk]
    refine Rch.i_eq rfl (fun q => absurd q (nI_ne1 (by omega))) (fun _ => ?_)
    refine Rch.go rfl ?_
    refine Rch.call 0 (t_X6_at c K s L e (zadd k) (by omega)) rfl rfl g_X4_15 om_X6_at rfl (fun _ _ _ q => q) rfl rfl rfl rfl ⟨rfl, rfl⟩ ⟨by decide, by decide⟩ (fun _ _ q => by obtain ⟨_, rfl⟩ := q; first | with_reducible rfl | rw [HP_len, HP_len]) (fun rv9 h9 q9 => ?_)
    obtain ⟨rfl, rfl⟩ := q9
    refine Rch.z_gt rfl (fun z => ?_) (fun z => ?_)
    · rw [if_pos z] at e1
      rw [e1]
      refine Rch.go rfl ?_
      exact Rch.ri rfl rfl rfl (by decide) (by decide) ⟨rfl, rfl⟩
    · rw [if_neg z] at e1
      rw [e1]
      refine Rch.go rfl ?_
      exact Rch.ri rfl rfl rfl (by decide) (by decide) ⟨rfl, rfl⟩
theorem t_X4_tankToLower (c : FA) (K : KS) (s : FA) (L : LS9) (e : AH) (x : Int32) : Ct m_X4_tankToLower X0 [.ref 1, .int x] (HP c K s L e) (fun rv h => rv = some (.int (oI (tlo c x))) ∧ h = HP c K s L e) := by
  refine ⟨ok_X4_tankToLower, ?_⟩
  refine Rch.go rfl ?_
  refine Rch.call 0 (t_X6_fullest c K s L e x) rfl rfl g_X4_25 om_X6_fullest rfl (fun _ _ _ q => q) rfl rfl rfl rfl ⟨rfl, rfl⟩ ⟨by decide, by decide⟩ (fun _ _ q => by obtain ⟨_, rfl⟩ := q; first | with_reducible rfl | rw [HP_len, HP_len]) (fun rv9 h9 q9 => ?_)
  obtain ⟨rfl, rfl⟩ := q9
  refine Rch.go rfl ?_
  refine Rch.call 0 (t_X6_emptiest c K s L e x) rfl rfl g_X4_9 om_X6_emptiest rfl (fun _ _ _ q => q) rfl rfl rfl rfl ⟨rfl, rfl⟩ ⟨by decide, by decide⟩ (fun _ _ q => by obtain ⟨_, rfl⟩ := q; first | with_reducible rfl | rw [HP_len, HP_len]) (fun rv9 h9 q9 => ?_)
  obtain ⟨rfl, rfl⟩ := q9
  refine Rch.go rfl ?_
  cases hf : ful c x 8 with
  | none =>
    have e1 : tlo c x = none := by unfold tlo; rw [hf]
    rw [e1]
    refine Rch.i_eq rfl (fun _ => ?_) (fun q => absurd rfl q)
    refine Rch.go rfl ?_
    exact Rch.ri rfl rfl rfl (by decide) (by decide) ⟨rfl, rfl⟩
  | some f =>
    have hlf := ful_lt hf
    refine Rch.i_eq rfl (fun q => absurd q (nI_ne1 (by omega))) (fun _ => ?_)
    refine Rch.go rfl ?_
    cases hk : emp c x 8 with
    | none =>
      have e1 : tlo c x = none := by unfold tlo; rw [hf, hk]
      rw [e1]
      refine Rch.i_ne rfl (fun _ => ?_) (fun q => absurd rfl q)
      refine Rch.go rfl ?_
      exact Rch.ri rfl rfl rfl (by decide) (by decide) ⟨rfl, rfl⟩
    | some k =>
      have hlt := emp_lt hk
      have e1 : tlo c x = if c f - c k < 2 then none else some f := by unfold tlo; rw [hf, hk]
      refine Rch.i_ne rfl (fun q => absurd q (nI_ne1 (by omega))) (fun _ => ?_)
      refine Rch.go rfl ?_
      refine Rch.call 0 (t_X6_at c K s L e (zadd f) (by omega)) rfl rfl g_X4_15 om_X6_at rfl (fun _ _ _ q => q) rfl rfl rfl rfl ⟨rfl, rfl⟩ ⟨by decide, by decide⟩ (fun _ _ q => by obtain ⟨_, rfl⟩ := q; first | with_reducible rfl | rw [HP_len, HP_len]) (fun rv9 h9 q9 => ?_)
      obtain ⟨rfl, rfl⟩ := q9
      refine Rch.go rfl ?_
      refine Rch.call 0 (t_X6_at c K s L e (zadd k) (by omega)) rfl rfl g_X4_15 om_X6_at rfl (fun _ _ _ q => q) rfl rfl rfl rfl ⟨rfl, rfl⟩ ⟨by decide, by decide⟩ (fun _ _ q => by obtain ⟨_, rfl⟩ := q; first | with_reducible rfl | rw [HP_len, HP_len]) (fun rv9 h9 q9 => ?_)
      obtain ⟨rfl, rfl⟩ := q9
      refine Rch.go rfl ?_
      refine Rch.i_lt rfl (fun z => ?_) (fun z => ?_)
      · rw [if_pos z] at e1
        rw [e1]
        refine Rch.go rfl ?_
        exact Rch.ri rfl rfl rfl (by decide) (by decide) ⟨rfl, rfl⟩
      · rw [if_neg z] at e1
        rw [e1]
        refine Rch.go rfl ?_
        exact Rch.ri rfl rfl rfl (by decide) (by decide) ⟨rfl, rfl⟩
theorem t_X4_moveBy (c : FA) (K : KS) (s : FA) (L : LS9) (e : AH) {k : Nat} (u : Int32) (hk : k < 8) : Ct m_X4_moveBy X0 [.ref 1, .int (nI k), .int u] (HP c K s L e) (fun rv h => rv = none ∧ h = HP (mvb c k u) K s L e) := by
  refine ⟨ok_X4_moveBy, ?_⟩
  refine Rch.go rfl ?_
  refine Rch.call 0 (t_X6_add c K s L e u (zadd k) (by omega)) rfl rfl g_X4_55 om_X6_add rfl (fun _ _ _ q => q) rfl rfl rfl rfl ⟨rfl, rfl⟩ ⟨by decide, by decide⟩ (fun _ _ q => by obtain ⟨_, rfl⟩ := q; first | with_reducible rfl | rw [HP_len, HP_len]) (fun rv9 h9 q9 => ?_)
  obtain ⟨rfl, rfl⟩ := q9
  refine Rch.go rfl ?_
  refine Rch.call 0 (t_X6_add _ K s L e 1 (nI_add 24 k) (by omega)) rfl rfl g_X4_55 om_X6_add rfl (fun _ _ _ q => q) rfl rfl rfl rfl ⟨rfl, rfl⟩ ⟨by decide, by decide⟩ (fun _ _ q => by obtain ⟨_, rfl⟩ := q; first | with_reducible rfl | rw [HP_len, HP_len]) (fun rv9 h9 q9 => ?_)
  obtain ⟨rfl, rfl⟩ := q9
  exact Rch.rv rfl rfl (by decide) (by decide) ⟨rfl, rfl⟩
theorem t_X4_fillUnit (c : FA) (K : KS) (s : FA) (L : LS9) (e : AH) (o : Option Nat) (ho : ∀ k, o = some k → k < 8) : Ct m_X4_fillUnit X0 [.ref 1, .int (oI o)] (HP c K s L e) (fun rv h => rv = some (.int (mvr (mfu c o))) ∧ h = HP (mvc c (mfu c o)) K s L e) := by
  refine ⟨ok_X4_fillUnit, ?_⟩
  refine Rch.go rfl ?_
  cases o with
  | none =>
    refine Rch.i_ne rfl (fun _ => ?_) (fun q => absurd rfl q)
    refine Rch.go rfl ?_
    exact Rch.ri rfl rfl rfl (by decide) (by decide) ⟨rfl, rfl⟩
  | some k =>
    have hk := ho k rfl
    refine Rch.i_ne rfl (fun q => absurd q (nI_ne1 (by omega))) (fun _ => ?_)
    refine Rch.go rfl ?_
    refine Rch.call 1 (t_X4_moveBy c K s L e 1 hk) rfl rfl g_X4_51 om_X4_moveBy rfl (fun _ _ _ q => q) rfl rfl rfl rfl ⟨rfl, rfl⟩ ⟨by decide, by decide⟩ (fun _ _ q => by obtain ⟨_, rfl⟩ := q; first | with_reducible rfl | rw [HP_len, HP_len]) (fun rv9 h9 q9 => ?_)
    obtain ⟨rfl, rfl⟩ := q9
    refine Rch.go rfl ?_
    refine Rch.call 0 (t_X6_add _ K s L e (j := 157) 1 rfl (by decide)) rfl rfl g_X4_55 om_X6_add rfl (fun _ _ _ q => q) rfl rfl rfl rfl ⟨rfl, rfl⟩ ⟨by decide, by decide⟩ (fun _ _ q => by obtain ⟨_, rfl⟩ := q; first | with_reducible rfl | rw [HP_len, HP_len]) (fun rv9 h9 q9 => ?_)
    obtain ⟨rfl, rfl⟩ := q9
    refine Rch.go rfl ?_
    exact Rch.ri rfl rfl rfl (by decide) (by decide) ⟨rfl, rfl⟩
theorem mvr_nar (o : Option FA) : narrow .boolean (.int (mvr o)) = .int (mvr o) := by
  cases o with
  | none => decide +kernel
  | some k => exact (show narrow .boolean (.int 1) = .int 1 by decide +kernel)
theorem t_X4_emptyUnit (c : FA) (K : KS) (s : FA) (L : LS9) (e : AH) (o : Option Nat) (ho : ∀ k, o = some k → k < 8) : Ct m_X4_emptyUnit X0 [.ref 1, .int (oI o)] (HP c K s L e) (fun rv h => rv = some (.int (mvr (meu c o))) ∧ h = HP (mvc c (meu c o)) K s L e) := by
  refine ⟨ok_X4_emptyUnit, ?_⟩
  refine Rch.go rfl ?_
  cases o with
  | none =>
    refine Rch.i_ne rfl (fun _ => ?_) (fun q => absurd rfl q)
    refine Rch.go rfl ?_
    exact Rch.ri rfl rfl rfl (by decide) (by decide) ⟨rfl, rfl⟩
  | some k =>
    have hk := ho k rfl
    refine Rch.i_ne rfl (fun q => absurd q (nI_ne1 (by omega))) (fun _ => ?_)
    refine Rch.go rfl ?_
    refine Rch.call 1 (t_X4_moveBy c K s L e (-1) hk) rfl rfl g_X4_51 om_X4_moveBy rfl (fun _ _ _ q => q) rfl rfl rfl rfl ⟨rfl, rfl⟩ ⟨by decide, by decide⟩ (fun _ _ q => by obtain ⟨_, rfl⟩ := q; first | with_reducible rfl | rw [HP_len, HP_len]) (fun rv9 h9 q9 => ?_)
    obtain ⟨rfl, rfl⟩ := q9
    refine Rch.go rfl ?_
    refine Rch.call 0 (t_X6_add _ K s L e (j := 158) 1 rfl (by decide)) rfl rfl g_X4_55 om_X6_add rfl (fun _ _ _ q => q) rfl rfl rfl rfl ⟨rfl, rfl⟩ ⟨by decide, by decide⟩ (fun _ _ q => by obtain ⟨_, rfl⟩ := q; first | with_reducible rfl | rw [HP_len, HP_len]) (fun rv9 h9 q9 => ?_)
    obtain ⟨rfl, rfl⟩ := q9
    refine Rch.go rfl ?_
    exact Rch.ri rfl rfl rfl (by decide) (by decide) ⟨rfl, rfl⟩
theorem t_X4_levelUnit (c : FA) (K : KS) (s : FA) (L : LS9) (e : AH) (o o2 : Option Nat) (ho : ∀ k, o = some k → k < 8) (ho2 : ∀ k, o2 = some k → k < 8) : Ct m_X4_levelUnit X0 [.ref 1, .int (oI o), .int (oI o2)] (HP c K s L e) (fun rv h => rv = some (.int (mvr (mlu c o o2))) ∧ h = HP (mvc c (mlu c o o2)) K s L e) := by
  refine ⟨ok_X4_levelUnit, ?_⟩
  refine Rch.go rfl ?_
  cases o with
  | none =>
    refine Rch.i_eq rfl (fun _ => ?_) (fun q => absurd rfl q)
    refine Rch.go rfl ?_
    exact Rch.ri rfl rfl rfl (by decide) (by decide) ⟨rfl, rfl⟩
  | some k =>
    have hk := ho k rfl
    refine Rch.i_eq rfl (fun q => absurd q (nI_ne1 (by omega))) (fun _ => ?_)
    refine Rch.go rfl ?_
    cases o2 with
    | none =>
      refine Rch.i_ne rfl (fun _ => ?_) (fun q => absurd rfl q)
      refine Rch.go rfl ?_
      exact Rch.ri rfl rfl rfl (by decide) (by decide) ⟨rfl, rfl⟩
    | some k2 =>
      have hk2 := ho2 k2 rfl
      refine Rch.i_ne rfl (fun q => absurd q (nI_ne1 (by omega))) (fun _ => ?_)
      refine Rch.go rfl ?_
      refine Rch.call 1 (t_X4_moveBy c K s L e (-1) hk) rfl rfl g_X4_51 om_X4_moveBy rfl (fun _ _ _ q => q) rfl rfl rfl rfl ⟨rfl, rfl⟩ ⟨by decide, by decide⟩ (fun _ _ q => by obtain ⟨_, rfl⟩ := q; first | with_reducible rfl | rw [HP_len, HP_len]) (fun rv9 h9 q9 => ?_)
      obtain ⟨rfl, rfl⟩ := q9
      refine Rch.go rfl ?_
      refine Rch.call 1 (t_X4_moveBy _ K s L e 1 hk2) rfl rfl g_X4_51 om_X4_moveBy rfl (fun _ _ _ q => q) rfl rfl rfl rfl ⟨rfl, rfl⟩ ⟨by decide, by decide⟩ (fun _ _ q => by obtain ⟨_, rfl⟩ := q; first | with_reducible rfl | rw [HP_len, HP_len]) (fun rv9 h9 q9 => ?_)
      obtain ⟨rfl, rfl⟩ := q9
      refine Rch.go rfl ?_
      refine Rch.call 0 (t_X6_add _ K s L e (j := 159) 1 rfl (by decide)) rfl rfl g_X4_55 om_X6_add rfl (fun _ _ _ q => q) rfl rfl rfl rfl ⟨rfl, rfl⟩ ⟨by decide, by decide⟩ (fun _ _ q => by obtain ⟨_, rfl⟩ := q; first | with_reducible rfl | rw [HP_len, HP_len]) (fun rv9 h9 q9 => ?_)
      obtain ⟨rfl, rfl⟩ := q9
      refine Rch.go rfl ?_
      exact Rch.ri rfl rfl rfl (by decide) (by decide) ⟨rfl, rfl⟩
theorem t_X4_moveUnit (c : FA) (K : KS) (s : FA) (L : LS9) (e : AH) (m x : Int32) : Ct m_X4_moveUnit X0 [.ref 1, .int m, .int x] (HP c K s L e) (fun rv h => rv = some (.int (mvr (mvu m c x))) ∧ h = HP (mvc c (mvu m c x)) K s L e) := by
  refine ⟨ok_X4_moveUnit, ?_⟩
  refine Rch.go rfl ?_
  by_cases h2 : m = 2
  · subst h2
    have e1 : mvu 2 c x = mfu c (tfi c x) := if_pos rfl
    refine Rch.sw (t := 28) rfl rfl ?_
    refine Rch.go rfl ?_
    refine Rch.call 1 (t_X4_tankToFill c K s L e x) rfl rfl g_X4_28 om_X4_tankToFill rfl (fun _ _ _ q => q) rfl rfl rfl rfl ⟨rfl, rfl⟩ ⟨by decide, by decide⟩ (fun _ _ q => by obtain ⟨_, rfl⟩ := q; first | with_reducible rfl | rw [HP_len, HP_len]) (fun rv9 h9 q9 => ?_)
    obtain ⟨rfl, rfl⟩ := q9
    refine Rch.call 1 (t_X4_fillUnit c K s L e (tfi c x) (fun k q => tfi_lt q)) rfl rfl g_X4_34 om_X4_fillUnit rfl (fun _ _ _ q => q) rfl rfl rfl rfl ⟨rfl, rfl⟩ ⟨by decide, by decide⟩ (fun _ _ q => by obtain ⟨_, rfl⟩ := q; first | with_reducible rfl | rw [HP_len, HP_len]) (fun rv9 h9 q9 => ?_)
    obtain ⟨rfl, rfl⟩ := q9
    rw [e1]
    cases tfi c x <;> exact Rch.ri rfl rfl (mvr_nar _) (by decide) (by decide) ⟨rfl, rfl⟩
  by_cases h3 : m = 3
  · subst h3
    have e1 : mvu 3 c x = meu c (tem c x) := by unfold mvu; rw [if_neg h2, if_pos rfl]
    refine Rch.sw (t := 38) rfl rfl ?_
    refine Rch.go rfl ?_
    refine Rch.call 1 (t_X4_tankToEmpty c K s L e x) rfl rfl g_X4_38 om_X4_tankToEmpty rfl (fun _ _ _ q => q) rfl rfl rfl rfl ⟨rfl, rfl⟩ ⟨by decide, by decide⟩ (fun _ _ q => by obtain ⟨_, rfl⟩ := q; first | with_reducible rfl | rw [HP_len, HP_len]) (fun rv9 h9 q9 => ?_)
    obtain ⟨rfl, rfl⟩ := q9
    refine Rch.call 1 (t_X4_emptyUnit c K s L e (tem c x) (fun k q => tem_lt q)) rfl rfl g_X4_41 om_X4_emptyUnit rfl (fun _ _ _ q => q) rfl rfl rfl rfl ⟨rfl, rfl⟩ ⟨by decide, by decide⟩ (fun _ _ q => by obtain ⟨_, rfl⟩ := q; first | with_reducible rfl | rw [HP_len, HP_len]) (fun rv9 h9 q9 => ?_)
    obtain ⟨rfl, rfl⟩ := q9
    rw [e1]
    cases tem c x <;> exact Rch.ri rfl rfl (mvr_nar _) (by decide) (by decide) ⟨rfl, rfl⟩
  by_cases h4 : m = 4
  · subst h4
    have e1 : mvu 4 c x = mlu c (tlo c x) (emp c x 8) := by unfold mvu; rw [if_neg h2, if_neg h3, if_pos rfl]
    refine Rch.sw (t := 48) rfl rfl ?_
    refine Rch.go rfl ?_
    refine Rch.call 1 (t_X4_tankToLower c K s L e x) rfl rfl g_X4_44 om_X4_tankToLower rfl (fun _ _ _ q => q) rfl rfl rfl rfl ⟨rfl, rfl⟩ ⟨by decide, by decide⟩ (fun _ _ q => by obtain ⟨_, rfl⟩ := q; first | with_reducible rfl | rw [HP_len, HP_len]) (fun rv9 h9 q9 => ?_)
    obtain ⟨rfl, rfl⟩ := q9
    refine Rch.go rfl ?_
    refine Rch.call 0 (t_X6_emptiest c K s L e x) rfl rfl g_X4_9 om_X6_emptiest rfl (fun _ _ _ q => q) rfl rfl rfl rfl ⟨rfl, rfl⟩ ⟨by decide, by decide⟩ (fun _ _ q => by obtain ⟨_, rfl⟩ := q; first | with_reducible rfl | rw [HP_len, HP_len]) (fun rv9 h9 q9 => ?_)
    obtain ⟨rfl, rfl⟩ := q9
    refine Rch.call 1 (t_X4_levelUnit c K s L e (tlo c x) (emp c x 8) (fun k q => tlo_lt q) (fun k q => emp_lt q)) rfl rfl g_X4_47 om_X4_levelUnit rfl (fun _ _ _ q => q) rfl rfl rfl rfl ⟨rfl, rfl⟩ ⟨by decide, by decide⟩ (fun _ _ q => by obtain ⟨_, rfl⟩ := q; first | with_reducible rfl | rw [HP_len, HP_len]) (fun rv9 h9 q9 => ?_)
    obtain ⟨rfl, rfl⟩ := q9
    rw [e1]
    cases tlo c x with
    | none => exact Rch.ri rfl rfl (mvr_nar _) (by decide) (by decide) ⟨rfl, rfl⟩
    | some f => cases emp c x 8 <;> exact Rch.ri rfl rfl (mvr_nar _) (by decide) (by decide) ⟨rfl, rfl⟩
  · have e1 : mvu m c x = none := by unfold mvu; rw [if_neg h2, if_neg h3, if_neg h4]
    have n2 := lv_neT (a := 2) h2 (by decide)
    have n3 := lv_neT (a := 3) h3 (by decide)
    have n4 := lv_neT (a := 4) h4 (by decide)
    refine Rch.sw (t := 63) rfl (if_pos (by omega)) ?_
    refine Rch.go rfl ?_
    rw [e1]
    exact Rch.ri rfl rfl rfl (by decide) (by decide) ⟨rfl, rfl⟩
end PU
end
section
/-! ===== minutes ===== -/
def ndB : List Nat → Bool
  | [] => true
  | x :: t => (t.all fun y => !Nat.beq x y) && ndB t
theorem ndB_of : ∀ {l : List Nat}, ndB l = true → l.Nodup
  | [], _ => List.nodup_nil
  | x :: t, h => by
    unfold ndB at h
    simp only [Bool.and_eq_true] at h
    refine List.nodup_cons.mpr ⟨fun hm => ?_, ndB_of h.2⟩
    have := List.all_eq_true.mp h.1 x hm
    simp at this
/-- fewer locals, by their places -/
theorem Rch.wp {M : MI} {X : AX} {Ψ : AS → Prop} {pc : Nat} {ls ls' : AL} {st : List Value} {h : AH} {cc cs : Nat} (ks : List Nat) (hs : ks.filterMap (fun k => nth ls k) = ls') (hn : ndB (ls'.map Prod.fst) = true) (k : Rch M X (pc, ls', st, h, cc, cs) Ψ) : Rch M X (pc, ls, st, h, cc, cs) Ψ := by
  refine Rch.wl (fun q hq => ?_) (ndB_of hn) k
  rw [← hs] at hq
  obtain ⟨k2, -, hk⟩ := List.mem_filterMap.mp hq
  exact List.mem_of_getElem? (nth_some hk)
section MI9
theorem t_X1_leakOut (c : FA) (K : KS) (s : FA) (L : LS9) (e : AH) : Ct m_X1_leakOut X0 [.ref 1] (HP c K s L e) (fun rv h => rv = none ∧ h = HP (lk c 8) K s L e) := by
  refine ⟨ok_X1_leakOut, ?_⟩
  refine Rch.go rfl ?_
  refine Rch.for 8 (fun n => (5, [(0, .ref 1), (1, .int (nI n))], [.int 8, .int (nI n)], HP (lk c n) K s L e, 0, 0)) (fun n hn => ?_) ?_ 0 (by omega)
  · refine Rch.i_ge rfl (fun z => absurd z (lo_in hn (by decide))) (fun _ => ?_)
    refine Rch.go rfl ?_
    refine Rch.call 0 (t_X6_at _ K s L e (nI_add 8 n) (by omega)) rfl rfl g_X1_15 om_X6_at rfl (fun _ _ _ q => q) rfl rfl rfl rfl ⟨rfl, rfl⟩ ⟨by decide, by decide⟩ (fun _ _ q => by obtain ⟨_, rfl⟩ := q; first | with_reducible rfl | rw [HP_len, HP_len]) (fun rv9 h9 q9 => ?_)
    obtain ⟨rfl, rfl⟩ := q9
    refine Rch.go rfl ?_
    refine Rch.call 0 (t_X6_at _ K s L e (zadd n) (by omega)) rfl rfl g_X1_15 om_X6_at rfl (fun _ _ _ q => q) rfl rfl rfl rfl ⟨rfl, rfl⟩ ⟨by decide, by decide⟩ (fun _ _ q => by obtain ⟨_, rfl⟩ := q; first | with_reducible rfl | rw [HP_len, HP_len]) (fun rv9 h9 q9 => ?_)
    obtain ⟨rfl, rfl⟩ := q9
    refine Rch.min rfl (by decide +kernel) rfl rfl rfl (by decide) (by decide) ?_
    refine Rch.go rfl ?_
    refine Rch.call 0 (t_X6_add _ K s L e _ (zadd n) (by omega)) rfl rfl g_X1_19 om_X6_add rfl (fun _ _ _ q => q) rfl rfl rfl rfl ⟨rfl, rfl⟩ ⟨by decide, by decide⟩ (fun _ _ q => by obtain ⟨_, rfl⟩ := q; first | with_reducible rfl | rw [HP_len, HP_len]) (fun rv9 h9 q9 => ?_)
    obtain ⟨rfl, rfl⟩ := q9
    refine Rch.go rfl ?_
    refine Rch.call 0 (t_X6_add _ K s L e _ (nI_add 16 n) (by omega)) rfl rfl g_X1_19 om_X6_add rfl (fun _ _ _ q => q) rfl rfl rfl rfl ⟨rfl, rfl⟩ ⟨by decide, by decide⟩ (fun _ _ q => by obtain ⟨_, rfl⟩ := q; first | with_reducible rfl | rw [HP_len, HP_len]) (fun rv9 h9 q9 => ?_)
    obtain ⟨rfl, rfl⟩ := q9
    refine Rch.go rfl ?_
    refine Rch.wp [0, 1] rfl rfl (Rch.rf ?_)
    rw [nI_1]
    rfl
  · refine Rch.i_ge rfl (fun _ => ?_) (fun z => absurd (lo_out (by decide)) z)
    refine Rch.go rfl ?_
    exact Rch.rv rfl rfl (by decide) (by decide) ⟨rfl, rfl⟩
theorem t_X1_shiftCargo (c : FA) (K : KS) (s : FA) (L : LS9) (e : AH) : Ct m_X1_shiftCargo X0 [.ref 1] (HP c K s L e) (fun rv h => rv = none ∧ h = HP (shf c) K s L e) := by
  refine ⟨ok_X1_shiftCargo, ?_⟩
  refine Rch.go rfl ?_
  refine Rch.call 0 (t_X6_list c K s L e) rfl rfl g_X1_44 om_X6_list rfl (fun _ _ _ q => q) rfl rfl rfl rfl ⟨rfl, rfl⟩ ⟨by decide, by decide⟩ (fun _ _ q => by obtain ⟨_, rfl⟩ := q; first | with_reducible rfl | rw [HP_len, HP_len]) (fun rv9 h9 q9 => ?_)
  obtain ⟨rfl, rfl⟩ := q9
  refine Rch.go rfl ?_
  refine Rch.abs rfl (by decide +kernel) rfl rfl rfl (by decide) (by decide) ?_
  refine Rch.go rfl ?_
  refine Rch.call 0 (t_X6_at c K s L e (j := 129) rfl (by decide)) rfl rfl g_X1_15 om_X6_at rfl (fun _ _ _ q => q) rfl rfl rfl rfl ⟨rfl, rfl⟩ ⟨by decide, by decide⟩ (fun _ _ q => by obtain ⟨_, rfl⟩ := q; first | with_reducible rfl | rw [HP_len, HP_len]) (fun rv9 h9 q9 => ?_)
  obtain ⟨rfl, rfl⟩ := q9
  refine Rch.i_gt rfl (fun z => ?_) (fun z => ?_)
  · have e1 : shf c = shl c (if 0 ≤ lst c then 1 else -1) 3 := if_pos z
    rw [e1]
    have key : ∀ st : Int32, Rch m_X1_shiftCargo X0 (34, [(0, .ref 1), (1, .int (lst c)), (2, .int st), (3, .int 0)], [.int 3, .int 0], HP c K s L e, 0, 0) (RetP m_X1_shiftCargo (fun rv h => rv = none ∧ h = HP (shl c st 3) K s L e)) := by
      intro st
      refine Rch.for 3 (fun n => (34, [(0, .ref 1), (1, .int (lst c)), (2, .int st), (3, .int (nI n))], [.int 3, .int (nI n)], HP (shl c st n) K s L e, 0, 0)) (fun n hn => ?_) ?_ 0 (by omega)
      · refine Rch.i_ge rfl (fun z => absurd z (lo_in hn (by decide))) (fun _ => ?_)
        refine Rch.go rfl ?_
        refine Rch.call 0 (t_X6_at _ K s L e (nI_add 115 n) (by omega)) rfl rfl g_X1_15 om_X6_at rfl (fun _ _ _ q => q) rfl rfl rfl rfl ⟨rfl, rfl⟩ ⟨by decide, by decide⟩ (fun _ _ q => by obtain ⟨_, rfl⟩ := q; first | with_reducible rfl | rw [HP_len, HP_len]) (fun rv9 h9 q9 => ?_)
        obtain ⟨rfl, rfl⟩ := q9
        refine Rch.go rfl ?_
        refine Rch.call 0 (t_X6_at _ K s L e (nI_add 112 n) (by omega)) rfl rfl g_X1_15 om_X6_at rfl (fun _ _ _ q => q) rfl rfl rfl rfl ⟨rfl, rfl⟩ ⟨by decide, by decide⟩ (fun _ _ q => by obtain ⟨_, rfl⟩ := q; first | with_reducible rfl | rw [HP_len, HP_len]) (fun rv9 h9 q9 => ?_)
        obtain ⟨rfl, rfl⟩ := q9
        refine Rch.z_le rfl (fun w => ?_) (fun w => ?_)
        · refine Rch.go rfl ?_
          refine Rch.wp [0, 1, 2, 3] rfl rfl (Rch.rf ?_)
          rw [nI_1, ← show shl c st (n + 1) = _ from if_neg (fun q => Int32.not_lt.mpr w q.1)]
          rfl
        · refine Rch.go rfl ?_
          refine Rch.abs rfl (by decide +kernel) rfl rfl rfl (by decide) (by decide) ?_
          refine Rch.go rfl ?_
          refine Rch.i_gt rfl (fun w2 => ?_) (fun w2 => ?_)
          · refine Rch.go rfl ?_
            refine Rch.wp [0, 1, 2, 3] rfl rfl (Rch.rf ?_)
            rw [nI_1, ← show shl c st (n + 1) = _ from if_neg (fun q => Int32.not_le.mpr w2 q.2)]
            rfl
          · refine Rch.go rfl ?_
            refine Rch.call 0 (t_X6_put _ K s L e _ (nI_add 115 n) (by omega)) rfl rfl g_X1_50 om_X6_put rfl (fun _ _ _ q => q) rfl rfl rfl rfl ⟨rfl, rfl⟩ ⟨by decide, by decide⟩ (fun _ _ q => by obtain ⟨_, rfl⟩ := q; first | with_reducible rfl | rw [HP_len, HP_len]) (fun rv9 h9 q9 => ?_)
            obtain ⟨rfl, rfl⟩ := q9
            refine Rch.go rfl ?_
            refine Rch.call 0 (t_X6_add _ K s L e (j := 161) _ rfl (by decide)) rfl rfl g_X1_19 om_X6_add rfl (fun _ _ _ q => q) rfl rfl rfl rfl ⟨rfl, rfl⟩ ⟨by decide, by decide⟩ (fun _ _ q => by obtain ⟨_, rfl⟩ := q; first | with_reducible rfl | rw [HP_len, HP_len]) (fun rv9 h9 q9 => ?_)
            obtain ⟨rfl, rfl⟩ := q9
            refine Rch.go rfl ?_
            refine Rch.wp [0, 1, 2, 3] rfl rfl (Rch.rf ?_)
            rw [nI_1, show shl c st (n + 1) = _ from if_pos ⟨nle_lt w, nlt_le w2⟩]
            rfl
      · refine Rch.i_ge rfl (fun _ => ?_) (fun z => absurd (lo_out (by decide)) z)
        refine Rch.go rfl ?_
        exact Rch.rv rfl rfl (by decide) (by decide) ⟨rfl, rfl⟩
    refine Rch.go rfl ?_
    refine Rch.z_ge rfl (fun w => ?_) (fun w => ?_)
    · refine Rch.go rfl ?_
      rw [if_pos w]
      exact key 1
    · refine Rch.go rfl ?_
      rw [if_neg w]
      exact key (-1)
  · have e1 : shf c = c := if_neg z
    rw [e1]
    exact Rch.rv rfl rfl (by decide) (by decide) ⟨rfl, rfl⟩
theorem run_units (c : FA) (K : KS) (s : FA) (L : LS9) (e : AH) (m x : Int32) (r : Nat) (hr : r < 2 ^ 31) (a2 a5 : Value) : ∀ (d u : Nat) (c : FA), u + d = r → Rch m_X1_run X0 (41, [(0, .ref 1), (1, .int m), (2, a2), (3, .int x), (4, .int (nI r)), (5, a5), (6, .int 1), (7, .int (nI u))], [.int (nI r), .int (nI u)], HP c K s L e, 0, 0) (fun τ => ∃ v w : Int32, τ = (67, [(0, .ref 1), (1, .int m), (2, a2), (3, .int x), (4, .int (nI r)), (5, a5), (6, .int v), (7, .int w)], [.int 156, .ref 1], HP (pmp m x d c) K s L e, 0, 0)) := by
  intro d
  induction d with
  | zero =>
    intro u c hu
    obtain rfl : u = r := by omega
    refine Rch.i_ge rfl (fun _ => ?_) (fun z => absurd (lo_out hr) z)
    exact Rch.go rfl (Rch.rf ⟨_, _, rfl⟩)
  | succ d ih =>
    intro u c hu
    refine Rch.i_ge rfl (fun z => absurd z (lo_in (by omega) hr)) (fun _ => ?_)
    refine Rch.go rfl ?_
    refine Rch.z_eq rfl (fun z => absurd z (by decide)) (fun _ => ?_)
    refine Rch.go rfl ?_
    refine Rch.call 1 (t_X4_moveUnit c K s L e m x) rfl rfl g_X1_23 om_X4_moveUnit rfl (fun _ _ _ q => q) rfl rfl rfl rfl ⟨rfl, rfl⟩ ⟨by decide, by decide⟩ (fun _ _ q => by obtain ⟨_, rfl⟩ := q; first | with_reducible rfl | rw [HP_len, HP_len]) (fun rv9 h9 q9 => ?_)
    obtain ⟨rfl, rfl⟩ := q9
    cases hv : mvu m c x with
    | none =>
      have e1 : pmp m x (d + 1) c = c := by show (match mvu m c x with | some c' => pmp m x d c' | none => c) = c; rw [hv]
      rw [e1]
      refine Rch.go rfl ?_
      refine Rch.i_ge rfl (fun _ => ?_) (fun _ => ?_)
      · exact Rch.go rfl (Rch.rf ⟨_, _, rfl⟩)
      · refine Rch.go rfl ?_
        refine Rch.z_eq rfl (fun _ => ?_) (fun z => absurd rfl z)
        exact Rch.go rfl (Rch.rf ⟨_, _, rfl⟩)
    | some c' =>
      have e1 : pmp m x (d + 1) c = pmp m x d c' := by show (match mvu m c x with | some c' => pmp m x d c' | none => c) = _; rw [hv]
      rw [e1]
      refine Rch.go rfl ?_
      refine Rch.eq (τ := (41, [(0, .ref 1), (1, .int m), (2, a2), (3, .int x), (4, .int (nI r)), (5, a5), (6, .int 1), (7, .int (nI (u + 1)))], [.int (nI r), .int (nI (u + 1))], HP c' K s L e, 0, 0)) ?_ (ih (u + 1) c' (by omega))
      rw [← nI_1]
      rfl
theorem t_X1_run (c : FA) (K : KS) (s : FA) (L : LS9) (e : AH) (m : Int32) {N r : Nat} (hN : N < 2 ^ 31) (hr : c 128 = nI r) (hr2 : r < 2 ^ 31) : Ct m_X1_run X0 [.ref 1, .int m, .int (nI N)] (HP c K s L e) (fun rv h => rv = none ∧ h = HP (mns m (opn c 5) r c N) K s L e) := by
  refine ⟨ok_X1_run, ?_⟩
  refine Rch.go rfl ?_
  refine Rch.call 0 (t_X6_openTanks c K s L e) rfl rfl g_X1_9 om_X6_openTanks rfl (fun _ _ _ q => q) rfl rfl rfl rfl ⟨rfl, rfl⟩ ⟨by decide, by decide⟩ (fun _ _ q => by obtain ⟨_, rfl⟩ := q; first | with_reducible rfl | rw [HP_len, HP_len]) (fun rv9 h9 q9 => ?_)
  obtain ⟨rfl, rfl⟩ := q9
  refine Rch.go rfl ?_
  refine Rch.call 0 (t_X6_at c K s L e (j := 128) rfl (by decide)) rfl rfl g_X1_15 om_X6_at rfl (fun _ _ _ q => q) rfl rfl rfl rfl ⟨rfl, rfl⟩ ⟨by decide, by decide⟩ (fun _ _ q => by obtain ⟨_, rfl⟩ := q; first | with_reducible rfl | rw [HP_len, HP_len]) (fun rv9 h9 q9 => ?_)
  obtain ⟨rfl, rfl⟩ := q9
  rw [hr]
  refine Rch.go rfl ?_
  refine Rch.for N (fun n => (20, [(0, .ref 1), (1, .int m), (2, .int (nI N)), (3, .int (opn c 5)), (4, .int (nI r)), (5, .int (nI n))], [.int (nI N), .int (nI n)], HP (mns m (opn c 5) r c n) K s L e, 0, 0)) (fun n hn => ?_) ?_ 0 (by omega)
  · refine Rch.i_ge rfl (fun z => absurd z (lo_in hn hN)) (fun _ => ?_)
    refine Rch.go rfl ?_
    refine Rch.call 0 (t_X6_add _ K s L e (j := 156) 1 rfl (by decide)) rfl rfl g_X1_19 om_X6_add rfl (fun _ _ _ q => q) rfl rfl rfl rfl ⟨rfl, rfl⟩ ⟨by decide, by decide⟩ (fun _ _ q => by obtain ⟨_, rfl⟩ := q; first | with_reducible rfl | rw [HP_len, HP_len]) (fun rv9 h9 q9 => ?_)
    obtain ⟨rfl, rfl⟩ := q9
    refine Rch.go rfl ?_
    refine Rch.tr (run_units c K s L e m (opn c 5) r hr2 _ _ r 0 _ (by omega)) ?_
    rintro τ ⟨v, w, rfl⟩
    refine Rch.call 0 (t_X6_at _ K s L e (j := 156) rfl (by decide)) rfl rfl g_X1_15 om_X6_at rfl (fun _ _ _ q => q) rfl rfl rfl rfl ⟨rfl, rfl⟩ ⟨by decide, by decide⟩ (fun _ _ q => by obtain ⟨_, rfl⟩ := q; first | with_reducible rfl | rw [HP_len, HP_len]) (fun rv9 h9 q9 => ?_)
    obtain ⟨rfl, rfl⟩ := q9
    refine Rch.go rfl ?_
    refine Rch.z_ne rfl (fun z => ?_) (fun z => ?_)
    · refine Rch.go rfl ?_
      refine Rch.call 1 (t_X1_leakOut _ K s L e) rfl rfl g_X1_29 om_X1_leakOut rfl (fun _ _ _ q => q) rfl rfl rfl rfl ⟨rfl, rfl⟩ ⟨by decide, by decide⟩ (fun _ _ q => by obtain ⟨_, rfl⟩ := q; first | with_reducible rfl | rw [HP_len, HP_len]) (fun rv9 h9 q9 => ?_)
      obtain ⟨rfl, rfl⟩ := q9
      refine Rch.go rfl ?_
      refine Rch.call 1 (t_X1_shiftCargo _ K s L e) rfl rfl g_X1_35 om_X1_shiftCargo rfl (fun _ _ _ q => q) rfl rfl rfl rfl ⟨rfl, rfl⟩ ⟨by decide, by decide⟩ (fun _ _ q => by obtain ⟨_, rfl⟩ := q; first | with_reducible rfl | rw [HP_len, HP_len]) (fun rv9 h9 q9 => ?_)
      obtain ⟨rfl, rfl⟩ := q9
      refine Rch.go rfl ?_
      refine Rch.wp [0, 1, 2, 3, 4, 5] rfl rfl (Rch.rf ?_)
      rw [nI_1]
      show (_, _) = (_, _)
      rw [show mns m (opn c 5) r c (n + 1) = shf (lk (pmp m (opn c 5) r (ad (mns m (opn c 5) r c n) 156 1)) 8) from congrArg shf (if_pos z)]
      rfl
    · refine Rch.go rfl ?_
      refine Rch.call 1 (t_X1_shiftCargo _ K s L e) rfl rfl g_X1_35 om_X1_shiftCargo rfl (fun _ _ _ q => q) rfl rfl rfl rfl ⟨rfl, rfl⟩ ⟨by decide, by decide⟩ (fun _ _ q => by obtain ⟨_, rfl⟩ := q; first | with_reducible rfl | rw [HP_len, HP_len]) (fun rv9 h9 q9 => ?_)
      obtain ⟨rfl, rfl⟩ := q9
      refine Rch.go rfl ?_
      refine Rch.wp [0, 1, 2, 3, 4, 5] rfl rfl (Rch.rf ?_)
      rw [nI_1]
      show (_, _) = (_, _)
      rw [show mns m (opn c 5) r c (n + 1) = shf (pmp m (opn c 5) r (ad (mns m (opn c 5) r c n) 156 1)) from congrArg shf (if_neg z)]
      rfl
  · refine Rch.i_ge rfl (fun _ => ?_) (fun z => absurd (lo_out hN) z)
    refine Rch.go rfl ?_
    exact Rch.rv rfl rfl (by decide) (by decide) ⟨rfl, rfl⟩
end MI9
end
section
/-! ===== the row of orders, the soundings, what is kept of states ===== -/
def pat (c : FA) (p : Nat) (k b : Int32) : FA := upd (upd c (131 + p) k) (143 + p) b
def apd (c : FA) (n : Nat) (k b : Int32) : FA := if n < 12 then upd (pat c n k b) 155 (nI n + 1) else c
def hasB (c : FA) (k : Int32) : Nat → Bool
  | 0 => false
  | n + 1 => hasB c k n || decide (c (131 + n) = k)
def stk (c : FA) (k : Int32) : Nat → FA × Nat
  | 0 => (c, 0)
  | n + 1 => if (stk c k n).1 (131 + n) = k then stk c k n else (pat (stk c k n).1 (stk c k n).2 ((stk c k n).1 (131 + n)) ((stk c k n).1 (143 + n)), (stk c k n).2 + 1)
theorem stk_le (c : FA) (k : Int32) : ∀ n, (stk c k n).2 ≤ n
  | 0 => Nat.le_refl _
  | n + 1 => by
    have := stk_le c k n
    unfold stk
    split
    · omega
    · show (stk c k n).2 + 1 ≤ n + 1; omega
def tkf (c : FA) : Nat → FA
  | 0 => c
  | q + 1 => pat (tkf c q) q (tkf c q (131 + (q + 1))) (tkf c q (143 + (q + 1)))
def tko (c : FA) (n : Nat) : FA := upd (tkf c (n - 1)) 155 (nI n - 1)
def rsn (c : FA) (k b : Nat) : Int32 := if k < 2 then (if c (123 + b) = (if k = 0 then 1 else 0) then 1 else 0) else if opn c 5 = 0 then 2 else
  if k = 2 then (if oI (tfi c (opn c 5)) = -1 then 3 else 0) else if k = 3 then (if oI (tem c (opn c 5)) = -1 then 4 else 0) else (if oI (tlo c (opn c 5)) = -1 then 5 else 0)
/-- the first order of n is done: kind k, by b, rate r -/
def wof (c : FA) (n k b r : Nat) : FA := if rsn (tko c n) k b = 0 then (if k < 2 then upd (tko c n) (123 + b) (if k = 0 then 1 else 0) else mns (nI k) (opn (tko c n) 5) r (tko c n) b) else ad (tko c n) 160 1
def sq (c : FA) (p : Nat) (m w u : Int32) : FA := upd (upd (upd c (40 + p) m) (64 + p) w) (88 + p) u
def sn1 (c : FA) (t : Nat) : FA := sq c (t * 3 + 2) (c (40 + (t * 3 + 1))) (c (64 + (t * 3 + 1))) (c (88 + (t * 3 + 1)))
def sn2 (c : FA) (t : Nat) : FA := sq (sn1 c t) (t * 3 + 1) (sn1 c t (40 + (t * 3 + 0))) (sn1 c t (64 + (t * 3 + 0))) (sn1 c t (88 + (t * 3 + 0)))
def sn3 (c : FA) (t : Nat) : FA := sq (sn2 c t) (t * 3 + 0) (sn2 c t 156) (sn2 c t t) (sn2 c t (24 + t))
def snd9 (c : FA) (t : Nat) : FA := upd (sn3 c t) (32 + t) (if 3 < sn3 c t (32 + t) + 1 then 3 else sn3 c t (32 + t) + 1)
def tldB (c : FA) (t : Nat) : Prop := 2 ≤ c (32 + t) ∧ c (88 + (t * 3 + 0)) = c (88 + (t * 3 + 1))
def los (c : FA) (t : Nat) : Int32 := c (64 + (t * 3 + 1)) - c (64 + (t * 3 + 0))
def cp (c r : FA) : FA := fun j => if j < 162 then c j else r j
def vup (f : Nat → FA) (k : Nat) (x : FA) : Nat → FA := fun j => if j = k then x else f j
section RO
theorem t_X2_putAt (c : FA) (K : KS) (s : FA) (L : LS9) (e : AH) {i : Int32} {p : Nat} (k b : Int32) (hi : i = nI p) (hp : p < 12) : Ct m_X2_putAt X0 [.ref 1, .int i, .int k, .int b] (HP c K s L e) (fun rv h => rv = none ∧ h = HP (pat c p k b) K s L e) := by
  subst hi
  refine ⟨ok_X2_putAt, ?_⟩
  refine Rch.go rfl ?_
  refine Rch.call 0 (t_X6_put c K s L e _ (nI_add 131 p) (by omega)) rfl rfl g_X2_21 om_X6_put rfl (fun _ _ _ q => q) rfl rfl rfl rfl ⟨rfl, rfl⟩ ⟨by decide, by decide⟩ (fun _ _ q => by obtain ⟨_, rfl⟩ := q; first | with_reducible rfl | rw [HP_len, HP_len]) (fun rv9 h9 q9 => ?_)
  obtain ⟨rfl, rfl⟩ := q9
  refine Rch.go rfl ?_
  refine Rch.call 0 (t_X6_put _ K s L e _ (nI_add 143 p) (by omega)) rfl rfl g_X2_21 om_X6_put rfl (fun _ _ _ q => q) rfl rfl rfl rfl ⟨rfl, rfl⟩ ⟨by decide, by decide⟩ (fun _ _ q => by obtain ⟨_, rfl⟩ := q; first | with_reducible rfl | rw [HP_len, HP_len]) (fun rv9 h9 q9 => ?_)
  obtain ⟨rfl, rfl⟩ := q9
  exact Rch.rv rfl rfl (by decide) (by decide) ⟨rfl, rfl⟩
theorem t_X2_append (c : FA) (K : KS) (s : FA) (L : LS9) (e : AH) {n : Nat} (k b : Int32) (hn : c 155 = nI n) (hn2 : n < 2 ^ 31) : Ct m_X2_append X0 [.ref 1, .int k, .int b] (HP c K s L e) (fun rv h => rv = none ∧ h = HP (apd c n k b) K s L e) := by
  refine ⟨ok_X2_append, ?_⟩
  refine Rch.go rfl ?_
  refine Rch.call 0 (t_X6_at c K s L e (j := 155) rfl (by decide)) rfl rfl g_X2_11 om_X6_at rfl (fun _ _ _ q => q) rfl rfl rfl rfl ⟨rfl, rfl⟩ ⟨by decide, by decide⟩ (fun _ _ q => by obtain ⟨_, rfl⟩ := q; first | with_reducible rfl | rw [HP_len, HP_len]) (fun rv9 h9 q9 => ?_)
  obtain ⟨rfl, rfl⟩ := q9
  refine Rch.go rfl ?_
  rw [hn]
  refine Rch.i_lt rfl (fun z => ?_) (fun z => ?_)
  · have hl : n < 12 := (nI_ltI hn2 (by decide)).mp (show nI n < nI 12 from z)
    have e1 : apd c n k b = _ := if_pos hl
    rw [e1]
    refine Rch.go rfl ?_
    refine Rch.call 1 (t_X2_putAt c K s L e _ _ rfl hl) rfl rfl g_X2_15 om_X2_putAt rfl (fun _ _ _ q => q) rfl rfl rfl rfl ⟨rfl, rfl⟩ ⟨by decide, by decide⟩ (fun _ _ q => by obtain ⟨_, rfl⟩ := q; first | with_reducible rfl | rw [HP_len, HP_len]) (fun rv9 h9 q9 => ?_)
    obtain ⟨rfl, rfl⟩ := q9
    refine Rch.go rfl ?_
    refine Rch.call 0 (t_X6_put _ K s L e (j := 155) _ rfl (by decide)) rfl rfl g_X2_21 om_X6_put rfl (fun _ _ _ q => q) rfl rfl rfl rfl ⟨rfl, rfl⟩ ⟨by decide, by decide⟩ (fun _ _ q => by obtain ⟨_, rfl⟩ := q; first | with_reducible rfl | rw [HP_len, HP_len]) (fun rv9 h9 q9 => ?_)
    obtain ⟨rfl, rfl⟩ := q9
    exact Rch.rv rfl rfl (by decide) (by decide) ⟨rfl, rfl⟩
  · have hl : ¬ n < 12 := fun q => z ((nI_ltI hn2 (by decide)).mpr q : nI n < nI 12)
    have e1 : apd c n k b = _ := if_neg hl
    rw [e1]
    exact Rch.rv rfl rfl (by decide) (by decide) ⟨rfl, rfl⟩
theorem has_go (c : FA) (K : KS) (s : FA) (L : LS9) (e : AH) {N : Nat} (k : Int32) (hN : N ≤ 12) : ∀ (d u : Nat), u + d = N → hasB c k u = false → Rch m_X2_has X0 (12, [(0, .ref 1), (1, .int k), (2, .int (nI N)), (3, .int (nI u))], [.int (nI N), .int (nI u)], HP c K s L e, 0, 0) (RetP m_X2_has (fun rv h => rv = some (.int (if hasB c k N = true then 1 else 0)) ∧ h = HP c K s L e)) := by
  intro d
  induction d with
  | zero =>
    intro u hu hf
    obtain rfl : u = N := by omega
    refine Rch.i_ge rfl (fun _ => ?_) (fun z => absurd (lo_out (by omega)) z)
    refine Rch.go rfl ?_
    exact Rch.ri rfl rfl rfl (by decide) (by decide) ⟨by rw [hf]; rfl, rfl⟩
  | succ d ih =>
    intro u hu hf
    refine Rch.i_ge rfl (fun z => absurd z (lo_in (by omega) (by omega))) (fun _ => ?_)
    refine Rch.go rfl ?_
    refine Rch.call 0 (t_X6_at c K s L e (nI_add 131 u) (by omega)) rfl rfl g_X2_11 om_X6_at rfl (fun _ _ _ q => q) rfl rfl rfl rfl ⟨rfl, rfl⟩ ⟨by decide, by decide⟩ (fun _ _ q => by obtain ⟨_, rfl⟩ := q; first | with_reducible rfl | rw [HP_len, HP_len]) (fun rv9 h9 q9 => ?_)
    obtain ⟨rfl, rfl⟩ := q9
    refine Rch.go rfl ?_
    refine Rch.i_ne rfl (fun z => ?_) (fun z => ?_)
    · have hT : ∀ d, hasB c k (u + 1 + d) = true := by
        intro d
        induction d with
        | zero => show (hasB c k u || decide (c (131 + u) = k)) = true; simp [z]
        | succ d ih2 => show (hasB c k (u + 1 + d) || _) = true; rw [ih2]; rfl
      have hT2 : hasB c k N = true := by have := hT d; rwa [show u + 1 + d = N by omega] at this
      refine Rch.go rfl ?_
      exact Rch.ri rfl rfl rfl (by decide) (by decide) ⟨by rw [hT2]; rfl, rfl⟩
    · refine Rch.go rfl ?_
      refine Rch.eq (τ := (12, [(0, .ref 1), (1, .int k), (2, .int (nI N)), (3, .int (nI (u + 1)))], [.int (nI N), .int (nI (u + 1))], HP c K s L e, 0, 0)) ?_ (ih (u + 1) (by omega) ?_)
      · rw [← nI_1]; rfl
      · show (hasB c k u || decide (c (131 + u) = k)) = false; simp [hf, z]
theorem t_X2_has (c : FA) (K : KS) (s : FA) (L : LS9) (e : AH) {n : Nat} (k : Int32) (hn : c 155 = nI n) (hn2 : n ≤ 12) : Ct m_X2_has X0 [.ref 1, .int k] (HP c K s L e) (fun rv h => rv = some (.int (if hasB c k n = true then 1 else 0)) ∧ h = HP c K s L e) := by
  refine ⟨ok_X2_has, ?_⟩
  refine Rch.go rfl ?_
  refine Rch.call 0 (t_X6_at c K s L e (j := 155) rfl (by decide)) rfl rfl g_X2_11 om_X6_at rfl (fun _ _ _ q => q) rfl rfl rfl rfl ⟨rfl, rfl⟩ ⟨by decide, by decide⟩ (fun _ _ q => by obtain ⟨_, rfl⟩ := q; first | with_reducible rfl | rw [HP_len, HP_len]) (fun rv9 h9 q9 => ?_)
  obtain ⟨rfl, rfl⟩ := q9
  rw [hn]
  refine Rch.go rfl ?_
  exact has_go c K s L e k hn2 n 0 (by omega) rfl
theorem t_X2_strikeOut (c : FA) (K : KS) (s : FA) (L : LS9) (e : AH) {N : Nat} (k : Int32) (hn : c 155 = nI N) (hn2 : N ≤ 12) : Ct m_X2_strikeOut X0 [.ref 1, .int k] (HP c K s L e) (fun rv h => rv = some (.int (nI N - nI (stk c k N).2)) ∧ h = HP (upd (stk c k N).1 155 (nI (stk c k N).2)) K s L e) := by
  refine ⟨ok_X2_strikeOut, ?_⟩
  refine Rch.go rfl ?_
  refine Rch.call 0 (t_X6_at c K s L e (j := 155) rfl (by decide)) rfl rfl g_X2_11 om_X6_at rfl (fun _ _ _ q => q) rfl rfl rfl rfl ⟨rfl, rfl⟩ ⟨by decide, by decide⟩ (fun _ _ q => by obtain ⟨_, rfl⟩ := q; first | with_reducible rfl | rw [HP_len, HP_len]) (fun rv9 h9 q9 => ?_)
  obtain ⟨rfl, rfl⟩ := q9
  rw [hn]
  refine Rch.go rfl ?_
  refine Rch.for N (fun n => (16, [(0, .ref 1), (1, .int k), (2, .int (nI N)), (3, .int (nI (stk c k n).2)), (4, .int (nI n))], [.int (nI N), .int (nI n)], HP (stk c k n).1 K s L e, 0, 0)) (fun n hn => ?_) ?_ 0 (by omega)
  · have hle := stk_le c k n
    refine Rch.i_ge rfl (fun z => absurd z (lo_in hn (by omega))) (fun _ => ?_)
    refine Rch.go rfl ?_
    refine Rch.call 0 (t_X6_at _ K s L e (nI_add 131 n) (by omega)) rfl rfl g_X2_11 om_X6_at rfl (fun _ _ _ q => q) rfl rfl rfl rfl ⟨rfl, rfl⟩ ⟨by decide, by decide⟩ (fun _ _ q => by obtain ⟨_, rfl⟩ := q; first | with_reducible rfl | rw [HP_len, HP_len]) (fun rv9 h9 q9 => ?_)
    obtain ⟨rfl, rfl⟩ := q9
    refine Rch.go rfl ?_
    refine Rch.i_eq rfl (fun z => ?_) (fun z => ?_)
    · refine Rch.go rfl ?_
      refine Rch.wp [0, 1, 2, 3, 4] rfl rfl (Rch.rf ?_)
      rw [nI_1, show stk c k (n + 1) = stk c k n from if_pos z]
      rfl
    · refine Rch.go rfl ?_
      refine Rch.call 0 (t_X6_at _ K s L e (nI_add 143 n) (by omega)) rfl rfl g_X2_11 om_X6_at rfl (fun _ _ _ q => q) rfl rfl rfl rfl ⟨rfl, rfl⟩ ⟨by decide, by decide⟩ (fun _ _ q => by obtain ⟨_, rfl⟩ := q; first | with_reducible rfl | rw [HP_len, HP_len]) (fun rv9 h9 q9 => ?_)
      obtain ⟨rfl, rfl⟩ := q9
      refine Rch.call 1 (t_X2_putAt _ K s L e _ _ rfl (by omega)) rfl rfl g_X2_15 om_X2_putAt rfl (fun _ _ _ q => q) rfl rfl rfl rfl ⟨rfl, rfl⟩ ⟨by decide, by decide⟩ (fun _ _ q => by obtain ⟨_, rfl⟩ := q; first | with_reducible rfl | rw [HP_len, HP_len]) (fun rv9 h9 q9 => ?_)
      obtain ⟨rfl, rfl⟩ := q9
      refine Rch.go rfl ?_
      refine Rch.wp [0, 1, 2, 3, 4] rfl rfl (Rch.rf ?_)
      rw [nI_1, nI_1, show stk c k (n + 1) = _ from if_neg z]
      rfl
  · have hle := stk_le c k N
    refine Rch.i_ge rfl (fun _ => ?_) (fun z => absurd (lo_out (by omega)) z)
    refine Rch.go rfl ?_
    refine Rch.call 0 (t_X6_put _ K s L e (j := 155) _ rfl (by decide)) rfl rfl g_X2_21 om_X6_put rfl (fun _ _ _ q => q) rfl rfl rfl rfl ⟨rfl, rfl⟩ ⟨by decide, by decide⟩ (fun _ _ q => by obtain ⟨_, rfl⟩ := q; first | with_reducible rfl | rw [HP_len, HP_len]) (fun rv9 h9 q9 => ?_)
    obtain ⟨rfl, rfl⟩ := q9
    refine Rch.go rfl ?_
    exact Rch.ri rfl rfl rfl (by decide) (by decide) ⟨rfl, rfl⟩
theorem t_X2_takeFirstOff (c : FA) (K : KS) (s : FA) (L : LS9) (e : AH) {N : Nat} (hn : c 155 = nI N) (h0 : 0 < N) (hn2 : N ≤ 12) : Ct m_X2_takeFirstOff X0 [.ref 1] (HP c K s L e) (fun rv h => rv = none ∧ h = HP (tko c N) K s L e) := by
  refine ⟨ok_X2_takeFirstOff, ?_⟩
  refine Rch.go rfl ?_
  refine Rch.call 0 (t_X6_at c K s L e (j := 155) rfl (by decide)) rfl rfl g_X2_11 om_X6_at rfl (fun _ _ _ q => q) rfl rfl rfl rfl ⟨rfl, rfl⟩ ⟨by decide, by decide⟩ (fun _ _ q => by obtain ⟨_, rfl⟩ := q; first | with_reducible rfl | rw [HP_len, HP_len]) (fun rv9 h9 q9 => ?_)
  obtain ⟨rfl, rfl⟩ := q9
  rw [hn]
  refine Rch.go rfl ?_
  obtain ⟨N1, rfl⟩ : ∃ q, N = q + 1 := ⟨N - 1, by omega⟩
  refine Rch.for N1 (fun n => (12, [(0, .ref 1), (1, .int (nI (N1 + 1))), (2, .int (nI (n + 1)))], [.int (nI (N1 + 1)), .int (nI (n + 1))], HP (tkf c n) K s L e, 0, 0)) (fun n hn => ?_) ?_ 0 (by omega)
  · refine Rch.i_ge rfl (fun z => absurd z (lo_in (by omega) (by omega))) (fun _ => ?_)
    refine Rch.go rfl ?_
    refine Rch.call 0 (t_X6_at _ K s L e (nI_add 131 (n + 1)) (by omega)) rfl rfl g_X2_11 om_X6_at rfl (fun _ _ _ q => q) rfl rfl rfl rfl ⟨rfl, rfl⟩ ⟨by decide, by decide⟩ (fun _ _ q => by obtain ⟨_, rfl⟩ := q; first | with_reducible rfl | rw [HP_len, HP_len]) (fun rv9 h9 q9 => ?_)
    obtain ⟨rfl, rfl⟩ := q9
    refine Rch.go rfl ?_
    refine Rch.call 0 (t_X6_at _ K s L e (nI_add 143 (n + 1)) (by omega)) rfl rfl g_X2_11 om_X6_at rfl (fun _ _ _ q => q) rfl rfl rfl rfl ⟨rfl, rfl⟩ ⟨by decide, by decide⟩ (fun _ _ q => by obtain ⟨_, rfl⟩ := q; first | with_reducible rfl | rw [HP_len, HP_len]) (fun rv9 h9 q9 => ?_)
    obtain ⟨rfl, rfl⟩ := q9
    refine Rch.call 1 (t_X2_putAt _ K s L e _ _ (nI_pred n) (by omega)) rfl rfl g_X2_15 om_X2_putAt rfl (fun _ _ _ q => q) rfl rfl rfl rfl ⟨rfl, rfl⟩ ⟨by decide, by decide⟩ (fun _ _ q => by obtain ⟨_, rfl⟩ := q; first | with_reducible rfl | rw [HP_len, HP_len]) (fun rv9 h9 q9 => ?_)
    obtain ⟨rfl, rfl⟩ := q9
    refine Rch.go rfl ?_
    refine Rch.wp [0, 1, 2] rfl rfl (Rch.rf ?_)
    rw [nI_1]
    rfl
  · refine Rch.i_ge rfl (fun _ => ?_) (fun z => absurd (lo_out (by omega)) z)
    refine Rch.go rfl ?_
    refine Rch.call 0 (t_X6_put _ K s L e (j := 155) _ rfl (by decide)) rfl rfl g_X2_21 om_X6_put rfl (fun _ _ _ q => q) rfl rfl rfl rfl ⟨rfl, rfl⟩ ⟨by decide, by decide⟩ (fun _ _ q => by obtain ⟨_, rfl⟩ := q; first | with_reducible rfl | rw [HP_len, HP_len]) (fun rv9 h9 q9 => ?_)
    obtain ⟨rfl, rfl⟩ := q9
    exact Rch.rv rfl rfl (by decide) (by decide) ⟨rfl, rfl⟩
theorem t_X8_isValve (k : Int32) (h0 : AH) : Ct m_X8_isValve X0 [.int k] h0 (fun rv h => rv = some (.int (if k = 0 ∨ k = 1 then 1 else 0)) ∧ h = h0) := by
  refine ⟨ok_X8_isValve, ?_⟩
  refine Rch.go rfl ?_
  refine Rch.z_eq rfl (fun z => ?_) (fun z => ?_)
  · refine Rch.go rfl ?_
    exact Rch.ri rfl rfl rfl (by decide) (by decide) ⟨by rw [if_pos (Or.inl z)], rfl⟩
  · refine Rch.go rfl ?_
    refine Rch.i_ne rfl (fun w => ?_) (fun w => ?_)
    · refine Rch.go rfl ?_
      exact Rch.ri rfl rfl rfl (by decide) (by decide) ⟨by rw [if_pos (Or.inr w)], rfl⟩
    · refine Rch.go rfl ?_
      exact Rch.ri rfl rfl rfl (by decide) (by decide) ⟨by rw [if_neg (fun q => q.elim z w)], rfl⟩
theorem t_X2_reasonToRefuse (c : FA) (K : KS) (s : FA) (L : LS9) (e : AH) {k b : Nat} {i j : Int32} (hi : i = nI k) (hj : j = nI b) (hk : k < 5) (hb : k < 2 → b < 5) : Ct m_X2_reasonToRefuse X0 [.ref 1, .int i, .int j] (HP c K s L e) (fun rv h => rv = some (.int (rsn c k b)) ∧ h = HP c K s L e) := by
  subst hi
  subst hj
  refine ⟨ok_X2_reasonToRefuse, ?_⟩
  refine Rch.go rfl ?_
  refine Rch.call 2 (t_X8_isValve _ _) rfl rfl g_X2_36 om_X8_isValve rfl (fun _ _ _ q => q) rfl rfl rfl rfl ⟨rfl, rfl⟩ ⟨by decide, by decide⟩ (fun _ _ q => by obtain ⟨_, rfl⟩ := q; first | with_reducible rfl | rw [HP_len, HP_len]) (fun rv9 h9 q9 => ?_)
  obtain ⟨rfl, rfl⟩ := q9
  have ev : (nI k = 0 ∨ nI k = 1) ↔ k < 2 := by
    rw [show (nI k = 0) = (nI k = nI 0) from rfl, show (nI k = 1) = (nI k = nI 1) from rfl, nI_eq (by omega) (by decide), nI_eq (by omega) (by decide)]
    omega
  refine Rch.z_eq rfl (fun z => ?_) (fun z => ?_)
  · have h2 : ¬ k < 2 := fun q => if10.mp z (ev.mpr q)
    have e1 : rsn c k b = _ := if_neg h2
    rw [e1]
    refine Rch.go rfl ?_
    refine Rch.call 0 (t_X6_openTanks c K s L e) rfl rfl g_X2_46 om_X6_openTanks rfl (fun _ _ _ q => q) rfl rfl rfl rfl ⟨rfl, rfl⟩ ⟨by decide, by decide⟩ (fun _ _ q => by obtain ⟨_, rfl⟩ := q; first | with_reducible rfl | rw [HP_len, HP_len]) (fun rv9 h9 q9 => ?_)
    obtain ⟨rfl, rfl⟩ := q9
    refine Rch.go rfl ?_
    refine Rch.z_ne rfl (fun w => ?_) (fun w => ?_)
    · rw [if_pos w]
      refine Rch.go rfl ?_
      exact Rch.ri rfl rfl rfl (by decide) (by decide) ⟨rfl, rfl⟩
    · rw [if_neg w]
      refine Rch.go rfl ?_
      match k, hk, h2 with
      | 2, _, _ =>
        refine Rch.sw (t := 72) rfl rfl ?_
        refine Rch.go rfl ?_
        refine Rch.call 1 (t_X4_tankToFill c K s L e _) rfl rfl g_X2_50 om_X4_tankToFill rfl (fun _ _ _ q => q) rfl rfl rfl rfl ⟨rfl, rfl⟩ ⟨by decide, by decide⟩ (fun _ _ q => by obtain ⟨_, rfl⟩ := q; first | with_reducible rfl | rw [HP_len, HP_len]) (fun rv9 h9 q9 => ?_)
        obtain ⟨rfl, rfl⟩ := q9
        refine Rch.go rfl ?_
        refine Rch.i_ne rfl (fun u => ?_) (fun u => ?_)
        · refine Rch.go rfl ?_
          exact Rch.ri rfl rfl rfl (by decide) (by decide) ⟨by rw [if_pos rfl, if_pos u], rfl⟩
        · refine Rch.go rfl ?_
          exact Rch.ri rfl rfl rfl (by decide) (by decide) ⟨by rw [if_pos rfl, if_neg u], rfl⟩
      | 3, _, _ =>
        refine Rch.sw (t := 87) rfl rfl ?_
        refine Rch.go rfl ?_
        refine Rch.call 1 (t_X4_tankToEmpty c K s L e _) rfl rfl g_X2_56 om_X4_tankToEmpty rfl (fun _ _ _ q => q) rfl rfl rfl rfl ⟨rfl, rfl⟩ ⟨by decide, by decide⟩ (fun _ _ q => by obtain ⟨_, rfl⟩ := q; first | with_reducible rfl | rw [HP_len, HP_len]) (fun rv9 h9 q9 => ?_)
        obtain ⟨rfl, rfl⟩ := q9
        refine Rch.go rfl ?_
        refine Rch.i_ne rfl (fun u => ?_) (fun u => ?_)
        · refine Rch.go rfl ?_
          exact Rch.ri rfl rfl rfl (by decide) (by decide) ⟨by rw [if_neg (by decide), if_pos rfl, if_pos u], rfl⟩
        · refine Rch.go rfl ?_
          exact Rch.ri rfl rfl rfl (by decide) (by decide) ⟨by rw [if_neg (by decide), if_pos rfl, if_neg u], rfl⟩
      | 4, _, _ =>
        refine Rch.sw (t := 102) rfl rfl ?_
        refine Rch.go rfl ?_
        refine Rch.call 1 (t_X4_tankToLower c K s L e _) rfl rfl g_X2_59 om_X4_tankToLower rfl (fun _ _ _ q => q) rfl rfl rfl rfl ⟨rfl, rfl⟩ ⟨by decide, by decide⟩ (fun _ _ q => by obtain ⟨_, rfl⟩ := q; first | with_reducible rfl | rw [HP_len, HP_len]) (fun rv9 h9 q9 => ?_)
        obtain ⟨rfl, rfl⟩ := q9
        refine Rch.go rfl ?_
        refine Rch.i_ne rfl (fun u => ?_) (fun u => ?_)
        · refine Rch.go rfl ?_
          exact Rch.ri rfl rfl rfl (by decide) (by decide) ⟨by rw [if_neg (by decide), if_neg (by decide), if_pos u], rfl⟩
        · refine Rch.go rfl ?_
          exact Rch.ri rfl rfl rfl (by decide) (by decide) ⟨by rw [if_neg (by decide), if_neg (by decide), if_neg u], rfl⟩
  · have h2 : k < 2 := Decidable.not_not.mp (fun q => z (if10.mpr (fun q2 => q (ev.mp q2))))
    have e1 : rsn c k b = _ := if_pos h2
    rw [e1]
    have hb2 := hb h2
    have key : ∀ w : Int32, Rch m_X2_reasonToRefuse X0 (22, [(0, .ref 1), (1, .int (nI k)), (2, .int (nI b)), (3, .int w)], [.int (123 + nI b), .ref 1], HP c K s L e, 0, 0) (RetP m_X2_reasonToRefuse (fun rv h => rv = some (.int (if c (123 + b) = w then 1 else 0)) ∧ h = HP c K s L e)) := by
      intro w
      refine Rch.call 0 (t_X6_at c K s L e (nI_add 123 b) (by omega)) rfl rfl g_X2_11 om_X6_at rfl (fun _ _ _ q => q) rfl rfl rfl rfl ⟨rfl, rfl⟩ ⟨by decide, by decide⟩ (fun _ _ q => by obtain ⟨_, rfl⟩ := q; first | with_reducible rfl | rw [HP_len, HP_len]) (fun rv9 h9 q9 => ?_)
      obtain ⟨rfl, rfl⟩ := q9
      refine Rch.go rfl ?_
      refine Rch.i_ne rfl (fun u => ?_) (fun u => ?_)
      · refine Rch.go rfl ?_
        exact Rch.ri rfl rfl rfl (by decide) (by decide) ⟨by rw [if_pos u], rfl⟩
      · refine Rch.go rfl ?_
        exact Rch.ri rfl rfl rfl (by decide) (by decide) ⟨by rw [if_neg u], rfl⟩
    refine Rch.go rfl ?_
    match k, h2 with
    | 0, _ =>
      refine Rch.z_ne rfl (fun _ => ?_) (fun q => absurd rfl q)
      refine Rch.go rfl ?_
      exact key 1
    | 1, _ =>
      refine Rch.z_ne rfl (fun q => absurd q (by decide)) (fun _ => ?_)
      refine Rch.go rfl ?_
      exact key 0
theorem t_X2_workFirst (c : FA) (K : KS) (s : FA) (L : LS9) (e : AH) {n k b r : Nat} (hn : c 155 = nI n) (h0 : 0 < n) (hn2 : n ≤ 12) (hk1 : c 131 = nI k) (hb1 : c 143 = nI b) (hk : k < 5) (hb : k < 2 → b < 5) (hb2 : b < 2 ^ 31) (hr : tko c n 128 = nI r) (hr2 : r < 2 ^ 31) : Ct m_X2_workFirst X0 [.ref 1] (HP c K s L e) (fun rv h => rv = none ∧ h = HP (wof c n k b r) K s L e) := by
  refine ⟨ok_X2_workFirst, ?_⟩
  refine Rch.go rfl ?_
  refine Rch.call 0 (t_X6_at c K s L e (j := 155) rfl (by decide)) rfl rfl g_X2_11 om_X6_at rfl (fun _ _ _ q => q) rfl rfl rfl rfl ⟨rfl, rfl⟩ ⟨by decide, by decide⟩ (fun _ _ q => by obtain ⟨_, rfl⟩ := q; first | with_reducible rfl | rw [HP_len, HP_len]) (fun rv9 h9 q9 => ?_)
  obtain ⟨rfl, rfl⟩ := q9
  rw [hn]
  refine Rch.z_ne rfl (fun q => absurd q (nI_ne0 h0 (by omega))) (fun _ => ?_)
  refine Rch.go rfl ?_
  refine Rch.call 0 (t_X6_at c K s L e (j := 131) rfl (by decide)) rfl rfl g_X2_11 om_X6_at rfl (fun _ _ _ q => q) rfl rfl rfl rfl ⟨rfl, rfl⟩ ⟨by decide, by decide⟩ (fun _ _ q => by obtain ⟨_, rfl⟩ := q; first | with_reducible rfl | rw [HP_len, HP_len]) (fun rv9 h9 q9 => ?_)
  obtain ⟨rfl, rfl⟩ := q9
  refine Rch.go rfl ?_
  refine Rch.call 0 (t_X6_at c K s L e (j := 143) rfl (by decide)) rfl rfl g_X2_11 om_X6_at rfl (fun _ _ _ q => q) rfl rfl rfl rfl ⟨rfl, rfl⟩ ⟨by decide, by decide⟩ (fun _ _ q => by obtain ⟨_, rfl⟩ := q; first | with_reducible rfl | rw [HP_len, HP_len]) (fun rv9 h9 q9 => ?_)
  obtain ⟨rfl, rfl⟩ := q9
  rw [hk1, hb1]
  refine Rch.go rfl ?_
  refine Rch.call 1 (t_X2_takeFirstOff c K s L e hn h0 hn2) rfl rfl g_X2_25 om_X2_takeFirstOff rfl (fun _ _ _ q => q) rfl rfl rfl rfl ⟨rfl, rfl⟩ ⟨by decide, by decide⟩ (fun _ _ q => by obtain ⟨_, rfl⟩ := q; first | with_reducible rfl | rw [HP_len, HP_len]) (fun rv9 h9 q9 => ?_)
  obtain ⟨rfl, rfl⟩ := q9
  refine Rch.go rfl ?_
  refine Rch.call 1 (t_X2_reasonToRefuse (tko c n) K s L e rfl rfl hk hb) rfl rfl g_X2_29 om_X2_reasonToRefuse rfl (fun _ _ _ q => q) rfl rfl rfl rfl ⟨rfl, rfl⟩ ⟨by decide, by decide⟩ (fun _ _ q => by obtain ⟨_, rfl⟩ := q; first | with_reducible rfl | rw [HP_len, HP_len]) (fun rv9 h9 q9 => ?_)
  obtain ⟨rfl, rfl⟩ := q9
  refine Rch.z_eq rfl (fun z => ?_) (fun z => ?_)
  · have e1 : wof c n k b r = _ := if_pos z
    rw [e1]
    refine Rch.go rfl ?_
    refine Rch.call 2 (t_X8_isValve _ _) rfl rfl g_X2_36 om_X8_isValve rfl (fun _ _ _ q => q) rfl rfl rfl rfl ⟨rfl, rfl⟩ ⟨by decide, by decide⟩ (fun _ _ q => by obtain ⟨_, rfl⟩ := q; first | with_reducible rfl | rw [HP_len, HP_len]) (fun rv9 h9 q9 => ?_)
    obtain ⟨rfl, rfl⟩ := q9
    have ev : (nI k = 0 ∨ nI k = 1) ↔ k < 2 := by
      rw [show (nI k = 0) = (nI k = nI 0) from rfl, show (nI k = 1) = (nI k = nI 1) from rfl, nI_eq (by omega) (by decide), nI_eq (by omega) (by decide)]
      omega
    refine Rch.z_eq rfl (fun w => ?_) (fun w => ?_)
    · rw [if_neg (fun q => if10.mp w (ev.mpr q))]
      refine Rch.go rfl ?_
      refine Rch.call 1 (t_X1_run (tko c n) K s L e _ hb2 hr hr2) rfl rfl g_X2_40 om_X1_run rfl (fun _ _ _ q => q) rfl rfl rfl rfl ⟨rfl, rfl⟩ ⟨by decide, by decide⟩ (fun _ _ q => by obtain ⟨_, rfl⟩ := q; first | with_reducible rfl | rw [HP_len, HP_len]) (fun rv9 h9 q9 => ?_)
      obtain ⟨rfl, rfl⟩ := q9
      refine Rch.go rfl ?_
      exact Rch.rv rfl rfl (by decide) (by decide) ⟨rfl, rfl⟩
    · have h2 : k < 2 := Decidable.not_not.mp (fun q => w (if10.mpr (fun q2 => q (ev.mp q2))))
      rw [if_pos h2]
      have hb3 := hb h2
      refine Rch.go rfl ?_
      match k, h2 with
      | 0, _ =>
        refine Rch.z_ne rfl (fun _ => ?_) (fun q => absurd rfl q)
        refine Rch.go rfl ?_
        refine Rch.call 0 (t_X6_put (tko c n) K s L e _ (nI_add 123 b) (by omega)) rfl rfl g_X2_21 om_X6_put rfl (fun _ _ _ q => q) rfl rfl rfl rfl ⟨rfl, rfl⟩ ⟨by decide, by decide⟩ (fun _ _ q => by obtain ⟨_, rfl⟩ := q; first | with_reducible rfl | rw [HP_len, HP_len]) (fun rv9 h9 q9 => ?_)
        obtain ⟨rfl, rfl⟩ := q9
        refine Rch.go rfl ?_
        exact Rch.rv rfl rfl (by decide) (by decide) ⟨rfl, rfl⟩
      | 1, _ =>
        refine Rch.z_ne rfl (fun q => absurd q (by decide)) (fun _ => ?_)
        refine Rch.go rfl ?_
        refine Rch.call 0 (t_X6_put (tko c n) K s L e _ (nI_add 123 b) (by omega)) rfl rfl g_X2_21 om_X6_put rfl (fun _ _ _ q => q) rfl rfl rfl rfl ⟨rfl, rfl⟩ ⟨by decide, by decide⟩ (fun _ _ q => by obtain ⟨_, rfl⟩ := q; first | with_reducible rfl | rw [HP_len, HP_len]) (fun rv9 h9 q9 => ?_)
        obtain ⟨rfl, rfl⟩ := q9
        refine Rch.go rfl ?_
        exact Rch.rv rfl rfl (by decide) (by decide) ⟨rfl, rfl⟩
  · have e1 : wof c n k b r = _ := if_neg z
    rw [e1]
    refine Rch.go rfl ?_
    refine Rch.call 0 (t_X6_add (tko c n) K s L e (j := 160) 1 rfl (by decide)) rfl rfl g_X2_33 om_X6_add rfl (fun _ _ _ q => q) rfl rfl rfl rfl ⟨rfl, rfl⟩ ⟨by decide, by decide⟩ (fun _ _ q => by obtain ⟨_, rfl⟩ := q; first | with_reducible rfl | rw [HP_len, HP_len]) (fun rv9 h9 q9 => ?_)
    obtain ⟨rfl, rfl⟩ := q9
    refine Rch.go rfl ?_
    exact Rch.rv rfl rfl (by decide) (by decide) ⟨rfl, rfl⟩
theorem t_X5_place (t b : Nat) {i j : Int32} (hi : i = nI t) (hj : j = nI b) (h0 : AH) : Ct m_X5_place X0 [.int i, .int j] h0 (fun rv h => rv = some (.int (nI (t * 3 + b))) ∧ h = h0) := by
  subst hi
  subst hj
  refine ⟨ok_X5_place, ?_⟩
  refine Rch.go rfl ?_
  exact Rch.ri rfl rfl rfl (by decide) (by decide) ⟨by rw [show nI t * 3 = nI t * nI 3 from rfl, nI_mul, nI_add], rfl⟩
theorem t_X5_putAt (c : FA) (K : KS) (s : FA) (L : LS9) (e : AH) {i : Int32} {p : Nat} (m w u : Int32) (hi : i = nI p) (hp : p < 24) : Ct m_X5_putAt X0 [.ref 1, .int i, .int m, .int w, .int u] (HP c K s L e) (fun rv h => rv = none ∧ h = HP (sq c p m w u) K s L e) := by
  subst hi
  refine ⟨ok_X5_putAt, ?_⟩
  refine Rch.go rfl ?_
  refine Rch.call 0 (t_X6_put c K s L e _ (nI_add 40 p) (by omega)) rfl rfl g_X5_30 om_X6_put rfl (fun _ _ _ q => q) rfl rfl rfl rfl ⟨rfl, rfl⟩ ⟨by decide, by decide⟩ (fun _ _ q => by obtain ⟨_, rfl⟩ := q; first | with_reducible rfl | rw [HP_len, HP_len]) (fun rv9 h9 q9 => ?_)
  obtain ⟨rfl, rfl⟩ := q9
  refine Rch.go rfl ?_
  refine Rch.call 0 (t_X6_put _ K s L e _ (nI_add 64 p) (by omega)) rfl rfl g_X5_30 om_X6_put rfl (fun _ _ _ q => q) rfl rfl rfl rfl ⟨rfl, rfl⟩ ⟨by decide, by decide⟩ (fun _ _ q => by obtain ⟨_, rfl⟩ := q; first | with_reducible rfl | rw [HP_len, HP_len]) (fun rv9 h9 q9 => ?_)
  obtain ⟨rfl, rfl⟩ := q9
  refine Rch.go rfl ?_
  refine Rch.call 0 (t_X6_put _ K s L e _ (nI_add 88 p) (by omega)) rfl rfl g_X5_30 om_X6_put rfl (fun _ _ _ q => q) rfl rfl rfl rfl ⟨rfl, rfl⟩ ⟨by decide, by decide⟩ (fun _ _ q => by obtain ⟨_, rfl⟩ := q; first | with_reducible rfl | rw [HP_len, HP_len]) (fun rv9 h9 q9 => ?_)
  obtain ⟨rfl, rfl⟩ := q9
  exact Rch.rv rfl rfl (by decide) (by decide) ⟨rfl, rfl⟩
theorem t_X5_put (c : FA) (K : KS) (s : FA) (L : LS9) (e : AH) {t : Nat} (ht : t < 8) : Ct m_X5_put X0 [.ref 1, .int (nI t)] (HP c K s L e) (fun rv h => rv = none ∧ h = HP (snd9 c t) K s L e) := by
  refine ⟨ok_X5_put, ?_⟩
  refine Rch.go rfl ?_
  refine Rch.call 1 (t_X5_place t 0 rfl rfl _) rfl rfl g_X5_9 om_X5_place rfl (fun _ _ _ q => q) rfl rfl rfl rfl ⟨rfl, rfl⟩ ⟨by decide, by decide⟩ (fun _ _ q => by obtain ⟨_, rfl⟩ := q; first | with_reducible rfl | rw [HP_len, HP_len]) (fun rv9 h9 q9 => ?_)
  obtain ⟨rfl, rfl⟩ := q9
  refine Rch.go rfl ?_
  refine Rch.z_le rfl (fun q => absurd q (by decide)) (fun _ => ?_)
  have e1 : nI (t * 3 + 0) + 2 - 1 = nI (t * 3 + 1) := by rw [show nI (t * 3 + 0) + 2 = nI (t * 3 + 0 + 2) from nI_add _ 2]; exact nI_pred (t * 3 + 1)
  have e2 : nI (t * 3 + 0) + (2 + -1) - 1 = nI (t * 3 + 0) := by rw [show nI (t * 3 + 0) + (2 + -1) = nI (t * 3 + 0 + 1) from nI_add _ 1]; exact nI_pred (t * 3 + 0)
  refine Rch.go rfl ?_
  rw [e1]
  refine Rch.call 0 (t_X6_at _ K s L e (nI_add 40 (t * 3 + 1)) (by omega)) rfl rfl g_X5_17 om_X6_at rfl (fun _ _ _ q => q) rfl rfl rfl rfl ⟨rfl, rfl⟩ ⟨by decide, by decide⟩ (fun _ _ q => by obtain ⟨_, rfl⟩ := q; first | with_reducible rfl | rw [HP_len, HP_len]) (fun rv9 h9 q9 => ?_)
  obtain ⟨rfl, rfl⟩ := q9
  refine Rch.go rfl ?_
  refine Rch.call 0 (t_X6_at _ K s L e (nI_add 64 (t * 3 + 1)) (by omega)) rfl rfl g_X5_17 om_X6_at rfl (fun _ _ _ q => q) rfl rfl rfl rfl ⟨rfl, rfl⟩ ⟨by decide, by decide⟩ (fun _ _ q => by obtain ⟨_, rfl⟩ := q; first | with_reducible rfl | rw [HP_len, HP_len]) (fun rv9 h9 q9 => ?_)
  obtain ⟨rfl, rfl⟩ := q9
  refine Rch.go rfl ?_
  refine Rch.call 0 (t_X6_at _ K s L e (nI_add 88 (t * 3 + 1)) (by omega)) rfl rfl g_X5_17 om_X6_at rfl (fun _ _ _ q => q) rfl rfl rfl rfl ⟨rfl, rfl⟩ ⟨by decide, by decide⟩ (fun _ _ q => by obtain ⟨_, rfl⟩ := q; first | with_reducible rfl | rw [HP_len, HP_len]) (fun rv9 h9 q9 => ?_)
  obtain ⟨rfl, rfl⟩ := q9
  refine Rch.call 1 (t_X5_putAt _ K s L e _ _ _ (nI_1 (t * 3 + 1)) (by omega)) rfl rfl g_X5_21 om_X5_putAt rfl (fun _ _ _ q => q) rfl rfl rfl rfl ⟨rfl, rfl⟩ ⟨by decide, by decide⟩ (fun _ _ q => by obtain ⟨_, rfl⟩ := q; first | with_reducible rfl | rw [HP_len, HP_len]) (fun rv9 h9 q9 => ?_)
  obtain ⟨rfl, rfl⟩ := q9
  refine Rch.go rfl ?_
  refine Rch.z_le rfl (fun q => absurd q (by decide)) (fun _ => ?_)
  refine Rch.go rfl ?_
  rw [e2]
  refine Rch.call 0 (t_X6_at _ K s L e (nI_add 40 (t * 3 + 0)) (by omega)) rfl rfl g_X5_17 om_X6_at rfl (fun _ _ _ q => q) rfl rfl rfl rfl ⟨rfl, rfl⟩ ⟨by decide, by decide⟩ (fun _ _ q => by obtain ⟨_, rfl⟩ := q; first | with_reducible rfl | rw [HP_len, HP_len]) (fun rv9 h9 q9 => ?_)
  obtain ⟨rfl, rfl⟩ := q9
  refine Rch.go rfl ?_
  refine Rch.call 0 (t_X6_at _ K s L e (nI_add 64 (t * 3 + 0)) (by omega)) rfl rfl g_X5_17 om_X6_at rfl (fun _ _ _ q => q) rfl rfl rfl rfl ⟨rfl, rfl⟩ ⟨by decide, by decide⟩ (fun _ _ q => by obtain ⟨_, rfl⟩ := q; first | with_reducible rfl | rw [HP_len, HP_len]) (fun rv9 h9 q9 => ?_)
  obtain ⟨rfl, rfl⟩ := q9
  refine Rch.go rfl ?_
  refine Rch.call 0 (t_X6_at _ K s L e (nI_add 88 (t * 3 + 0)) (by omega)) rfl rfl g_X5_17 om_X6_at rfl (fun _ _ _ q => q) rfl rfl rfl rfl ⟨rfl, rfl⟩ ⟨by decide, by decide⟩ (fun _ _ q => by obtain ⟨_, rfl⟩ := q; first | with_reducible rfl | rw [HP_len, HP_len]) (fun rv9 h9 q9 => ?_)
  obtain ⟨rfl, rfl⟩ := q9
  refine Rch.call 1 (t_X5_putAt _ K s L e _ _ _ (nI_1 (t * 3 + 0)) (by omega)) rfl rfl g_X5_21 om_X5_putAt rfl (fun _ _ _ q => q) rfl rfl rfl rfl ⟨rfl, rfl⟩ ⟨by decide, by decide⟩ (fun _ _ q => by obtain ⟨_, rfl⟩ := q; first | with_reducible rfl | rw [HP_len, HP_len]) (fun rv9 h9 q9 => ?_)
  obtain ⟨rfl, rfl⟩ := q9
  refine Rch.go rfl ?_
  refine Rch.z_le rfl (fun _ => ?_) (fun q => absurd (by decide) q)
  refine Rch.go rfl ?_
  refine Rch.call 0 (t_X6_at _ K s L e (j := 156) rfl (by decide)) rfl rfl g_X5_17 om_X6_at rfl (fun _ _ _ q => q) rfl rfl rfl rfl ⟨rfl, rfl⟩ ⟨by decide, by decide⟩ (fun _ _ q => by obtain ⟨_, rfl⟩ := q; first | with_reducible rfl | rw [HP_len, HP_len]) (fun rv9 h9 q9 => ?_)
  obtain ⟨rfl, rfl⟩ := q9
  refine Rch.go rfl ?_
  refine Rch.call 0 (t_X6_at _ K s L e (zadd t) (by omega)) rfl rfl g_X5_17 om_X6_at rfl (fun _ _ _ q => q) rfl rfl rfl rfl ⟨rfl, rfl⟩ ⟨by decide, by decide⟩ (fun _ _ q => by obtain ⟨_, rfl⟩ := q; first | with_reducible rfl | rw [HP_len, HP_len]) (fun rv9 h9 q9 => ?_)
  obtain ⟨rfl, rfl⟩ := q9
  refine Rch.go rfl ?_
  refine Rch.call 0 (t_X6_at _ K s L e (nI_add 24 t) (by omega)) rfl rfl g_X5_17 om_X6_at rfl (fun _ _ _ q => q) rfl rfl rfl rfl ⟨rfl, rfl⟩ ⟨by decide, by decide⟩ (fun _ _ q => by obtain ⟨_, rfl⟩ := q; first | with_reducible rfl | rw [HP_len, HP_len]) (fun rv9 h9 q9 => ?_)
  obtain ⟨rfl, rfl⟩ := q9
  refine Rch.call 1 (t_X5_putAt _ K s L e _ _ _ rfl (by omega)) rfl rfl g_X5_21 om_X5_putAt rfl (fun _ _ _ q => q) rfl rfl rfl rfl ⟨rfl, rfl⟩ ⟨by decide, by decide⟩ (fun _ _ q => by obtain ⟨_, rfl⟩ := q; first | with_reducible rfl | rw [HP_len, HP_len]) (fun rv9 h9 q9 => ?_)
  obtain ⟨rfl, rfl⟩ := q9
  refine Rch.go rfl ?_
  refine Rch.call 0 (t_X6_at _ K s L e (nI_add 32 t) (by omega)) rfl rfl g_X5_17 om_X6_at rfl (fun _ _ _ q => q) rfl rfl rfl rfl ⟨rfl, rfl⟩ ⟨by decide, by decide⟩ (fun _ _ q => by obtain ⟨_, rfl⟩ := q; first | with_reducible rfl | rw [HP_len, HP_len]) (fun rv9 h9 q9 => ?_)
  obtain ⟨rfl, rfl⟩ := q9
  refine Rch.go rfl ?_
  refine Rch.min rfl (by decide +kernel) rfl rfl rfl (by decide) (by decide) ?_
  refine Rch.call 0 (t_X6_put _ K s L e _ (nI_add 32 t) (by omega)) rfl rfl g_X5_30 om_X6_put rfl (fun _ _ _ q => q) rfl rfl rfl rfl ⟨rfl, rfl⟩ ⟨by decide, by decide⟩ (fun _ _ q => by obtain ⟨_, rfl⟩ := q; first | with_reducible rfl | rw [HP_len, HP_len]) (fun rv9 h9 q9 => ?_)
  obtain ⟨rfl, rfl⟩ := q9
  exact Rch.rv rfl rfl (by decide) (by decide) ⟨rfl, rfl⟩
theorem t_X5_isLossTold (c : FA) (K : KS) (s : FA) (L : LS9) (e : AH) {t : Nat} (ht : t < 8) : Ct m_X5_isLossTold X0 [.ref 1, .int (nI t)] (HP c K s L e) (fun rv h => (rv = some (.int 1) ∧ tldB c t ∨ rv = some (.int 0) ∧ ¬ tldB c t) ∧ h = HP c K s L e) := by
  refine ⟨ok_X5_isLossTold, ?_⟩
  refine Rch.go rfl ?_
  refine Rch.call 1 (t_X5_place t 0 rfl rfl _) rfl rfl g_X5_9 om_X5_place rfl (fun _ _ _ q => q) rfl rfl rfl rfl ⟨rfl, rfl⟩ ⟨by decide, by decide⟩ (fun _ _ q => by obtain ⟨_, rfl⟩ := q; first | with_reducible rfl | rw [HP_len, HP_len]) (fun rv9 h9 q9 => ?_)
  obtain ⟨rfl, rfl⟩ := q9
  refine Rch.go rfl ?_
  refine Rch.call 1 (t_X5_place t 1 rfl rfl _) rfl rfl g_X5_9 om_X5_place rfl (fun _ _ _ q => q) rfl rfl rfl rfl ⟨rfl, rfl⟩ ⟨by decide, by decide⟩ (fun _ _ q => by obtain ⟨_, rfl⟩ := q; first | with_reducible rfl | rw [HP_len, HP_len]) (fun rv9 h9 q9 => ?_)
  obtain ⟨rfl, rfl⟩ := q9
  refine Rch.go rfl ?_
  refine Rch.call 0 (t_X6_at _ K s L e (nI_add 32 t) (by omega)) rfl rfl g_X5_17 om_X6_at rfl (fun _ _ _ q => q) rfl rfl rfl rfl ⟨rfl, rfl⟩ ⟨by decide, by decide⟩ (fun _ _ q => by obtain ⟨_, rfl⟩ := q; first | with_reducible rfl | rw [HP_len, HP_len]) (fun rv9 h9 q9 => ?_)
  obtain ⟨rfl, rfl⟩ := q9
  refine Rch.go rfl ?_
  refine Rch.i_lt rfl (fun z => ?_) (fun z => ?_)
  · refine Rch.go rfl ?_
    exact Rch.ri rfl rfl rfl (by decide) (by decide) (⟨Or.inr ⟨rfl, fun q => Int32.not_le.mpr z q.1⟩, rfl⟩)
  · refine Rch.go rfl ?_
    refine Rch.call 0 (t_X6_at _ K s L e (nI_add 88 (t * 3 + 0)) (by omega)) rfl rfl g_X5_17 om_X6_at rfl (fun _ _ _ q => q) rfl rfl rfl rfl ⟨rfl, rfl⟩ ⟨by decide, by decide⟩ (fun _ _ q => by obtain ⟨_, rfl⟩ := q; first | with_reducible rfl | rw [HP_len, HP_len]) (fun rv9 h9 q9 => ?_)
    obtain ⟨rfl, rfl⟩ := q9
    refine Rch.go rfl ?_
    refine Rch.call 0 (t_X6_at _ K s L e (nI_add 88 (t * 3 + 1)) (by omega)) rfl rfl g_X5_17 om_X6_at rfl (fun _ _ _ q => q) rfl rfl rfl rfl ⟨rfl, rfl⟩ ⟨by decide, by decide⟩ (fun _ _ q => by obtain ⟨_, rfl⟩ := q; first | with_reducible rfl | rw [HP_len, HP_len]) (fun rv9 h9 q9 => ?_)
    obtain ⟨rfl, rfl⟩ := q9
    refine Rch.i_ne rfl (fun w => ?_) (fun w => ?_)
    · refine Rch.go rfl ?_
      exact Rch.ri rfl rfl rfl (by decide) (by decide) (⟨Or.inl ⟨rfl, nlt_le z, w⟩, rfl⟩)
    · refine Rch.go rfl ?_
      exact Rch.ri rfl rfl rfl (by decide) (by decide) (⟨Or.inr ⟨rfl, fun q => w q.2⟩, rfl⟩)
theorem t_X5_loss (c : FA) (K : KS) (s : FA) (L : LS9) (e : AH) {t : Nat} (ht : t < 8) : Ct m_X5_loss X0 [.ref 1, .int (nI t)] (HP c K s L e) (fun rv h => rv = some (.int (los c t)) ∧ h = HP c K s L e) := by
  refine ⟨ok_X5_loss, ?_⟩
  refine Rch.go rfl ?_
  refine Rch.call 1 (t_X5_place t 0 rfl rfl _) rfl rfl g_X5_9 om_X5_place rfl (fun _ _ _ q => q) rfl rfl rfl rfl ⟨rfl, rfl⟩ ⟨by decide, by decide⟩ (fun _ _ q => by obtain ⟨_, rfl⟩ := q; first | with_reducible rfl | rw [HP_len, HP_len]) (fun rv9 h9 q9 => ?_)
  obtain ⟨rfl, rfl⟩ := q9
  refine Rch.go rfl ?_
  refine Rch.call 1 (t_X5_place t 1 rfl rfl _) rfl rfl g_X5_9 om_X5_place rfl (fun _ _ _ q => q) rfl rfl rfl rfl ⟨rfl, rfl⟩ ⟨by decide, by decide⟩ (fun _ _ q => by obtain ⟨_, rfl⟩ := q; first | with_reducible rfl | rw [HP_len, HP_len]) (fun rv9 h9 q9 => ?_)
  obtain ⟨rfl, rfl⟩ := q9
  refine Rch.go rfl ?_
  refine Rch.call 0 (t_X6_at _ K s L e (nI_add 64 (t * 3 + 1)) (by omega)) rfl rfl g_X5_17 om_X6_at rfl (fun _ _ _ q => q) rfl rfl rfl rfl ⟨rfl, rfl⟩ ⟨by decide, by decide⟩ (fun _ _ q => by obtain ⟨_, rfl⟩ := q; first | with_reducible rfl | rw [HP_len, HP_len]) (fun rv9 h9 q9 => ?_)
  obtain ⟨rfl, rfl⟩ := q9
  refine Rch.go rfl ?_
  refine Rch.call 0 (t_X6_at _ K s L e (nI_add 64 (t * 3 + 0)) (by omega)) rfl rfl g_X5_17 om_X6_at rfl (fun _ _ _ q => q) rfl rfl rfl rfl ⟨rfl, rfl⟩ ⟨by decide, by decide⟩ (fun _ _ q => by obtain ⟨_, rfl⟩ := q; first | with_reducible rfl | rw [HP_len, HP_len]) (fun rv9 h9 q9 => ?_)
  obtain ⟨rfl, rfl⟩ := q9
  refine Rch.go rfl ?_
  exact Rch.ri rfl rfl rfl (by decide) (by decide) ⟨rfl, rfl⟩
end RO
end
section
/-! ===== what is kept of states ===== -/
theorem t_X6_copyFrom__9 (c : FA) (K : KS) (s : FA) (L : LS9) (e : AH) : Ct m_X6_copyFrom X0 [.ref 1, .ref 9] (HP c K s L e) (fun rv h => rv = none ∧ h = HP (cp K.2.2.2.1 c) K s L e) := by
  refine ⟨ok_X6_copyFrom, ?_⟩
  refine Rch.go rfl ?_
  refine Rch.i_ne rfl (fun _ => ?_) (fun q => absurd rfl q)
  refine Rch.go rfl ?_
  refine Rch.copy rfl (by decide +kernel) rfl (by decide +kernel) rfl rfl rfl rfl rfl (nn := 162) rfl (by decide) (by decide) (by decide) ?_
  exact Rch.rv rfl rfl (by decide) (by decide) ⟨rfl, rfl⟩
theorem t_X6_copyTo__9 (c : FA) (K : KS) (s : FA) (L : LS9) (e : AH) : Ct m_X6_copyTo X0 [.ref 1, .ref 9] (HP c K s L e) (fun rv h => rv = none ∧ h = HP c (K.1, K.2.1, K.2.2.1, cp c K.2.2.2.1, K.2.2.2.2) s L e) := by
  refine ⟨ok_X6_copyTo, ?_⟩
  refine Rch.go rfl ?_
  refine Rch.i_ne rfl (fun _ => ?_) (fun q => absurd rfl q)
  refine Rch.go rfl ?_
  refine Rch.copy rfl (by decide +kernel) rfl (by decide +kernel) rfl rfl rfl rfl rfl (nn := 162) rfl (by decide) (by decide) (by decide) ?_
  exact Rch.rv rfl rfl (by decide) (by decide) ⟨rfl, rfl⟩
theorem t_X6_copyTo__r0 (c : FA) (K : KS) (s : FA) (L : LS9) (e : AH) : Ct m_X6_copyTo X0 [.ref 1, .ref (5 + 0)] (HP c K s L e) (fun rv h => rv = none ∧ h = HP c (vup K.1 0 (cp c (K.1 0)), K.2) s L e) := by
  refine ⟨ok_X6_copyTo, ?_⟩
  refine Rch.go rfl ?_
  refine Rch.i_ne rfl (fun _ => ?_) (fun q => absurd rfl q)
  refine Rch.go rfl ?_
  refine Rch.copy rfl (by decide +kernel) rfl (by decide +kernel) rfl rfl rfl rfl rfl (nn := 162) rfl (by decide) (by decide) (by decide) ?_
  exact Rch.rv rfl rfl (by decide) (by decide) ⟨rfl, rfl⟩
theorem t_X6_copyFrom__r0 (c : FA) (K : KS) (s : FA) (L : LS9) (e : AH) : Ct m_X6_copyFrom X0 [.ref 1, .ref (5 + 0)] (HP c K s L e) (fun rv h => rv = none ∧ h = HP (cp (K.1 0) c) K s L e) := by
  refine ⟨ok_X6_copyFrom, ?_⟩
  refine Rch.go rfl ?_
  refine Rch.i_ne rfl (fun _ => ?_) (fun q => absurd rfl q)
  refine Rch.go rfl ?_
  refine Rch.copy rfl (by decide +kernel) rfl (by decide +kernel) rfl rfl rfl rfl rfl (nn := 162) rfl (by decide) (by decide) (by decide) ?_
  exact Rch.rv rfl rfl (by decide) (by decide) ⟨rfl, rfl⟩
theorem t_X6_copyTo__r1 (c : FA) (K : KS) (s : FA) (L : LS9) (e : AH) : Ct m_X6_copyTo X0 [.ref 1, .ref (5 + 1)] (HP c K s L e) (fun rv h => rv = none ∧ h = HP c (vup K.1 1 (cp c (K.1 1)), K.2) s L e) := by
  refine ⟨ok_X6_copyTo, ?_⟩
  refine Rch.go rfl ?_
  refine Rch.i_ne rfl (fun _ => ?_) (fun q => absurd rfl q)
  refine Rch.go rfl ?_
  refine Rch.copy rfl (by decide +kernel) rfl (by decide +kernel) rfl rfl rfl rfl rfl (nn := 162) rfl (by decide) (by decide) (by decide) ?_
  exact Rch.rv rfl rfl (by decide) (by decide) ⟨rfl, rfl⟩
theorem t_X6_copyFrom__r1 (c : FA) (K : KS) (s : FA) (L : LS9) (e : AH) : Ct m_X6_copyFrom X0 [.ref 1, .ref (5 + 1)] (HP c K s L e) (fun rv h => rv = none ∧ h = HP (cp (K.1 1) c) K s L e) := by
  refine ⟨ok_X6_copyFrom, ?_⟩
  refine Rch.go rfl ?_
  refine Rch.i_ne rfl (fun _ => ?_) (fun q => absurd rfl q)
  refine Rch.go rfl ?_
  refine Rch.copy rfl (by decide +kernel) rfl (by decide +kernel) rfl rfl rfl rfl rfl (nn := 162) rfl (by decide) (by decide) (by decide) ?_
  exact Rch.rv rfl rfl (by decide) (by decide) ⟨rfl, rfl⟩
theorem t_X6_copyTo__r2 (c : FA) (K : KS) (s : FA) (L : LS9) (e : AH) : Ct m_X6_copyTo X0 [.ref 1, .ref (5 + 2)] (HP c K s L e) (fun rv h => rv = none ∧ h = HP c (vup K.1 2 (cp c (K.1 2)), K.2) s L e) := by
  refine ⟨ok_X6_copyTo, ?_⟩
  refine Rch.go rfl ?_
  refine Rch.i_ne rfl (fun _ => ?_) (fun q => absurd rfl q)
  refine Rch.go rfl ?_
  refine Rch.copy rfl (by decide +kernel) rfl (by decide +kernel) rfl rfl rfl rfl rfl (nn := 162) rfl (by decide) (by decide) (by decide) ?_
  exact Rch.rv rfl rfl (by decide) (by decide) ⟨rfl, rfl⟩
theorem t_X6_copyFrom__r2 (c : FA) (K : KS) (s : FA) (L : LS9) (e : AH) : Ct m_X6_copyFrom X0 [.ref 1, .ref (5 + 2)] (HP c K s L e) (fun rv h => rv = none ∧ h = HP (cp (K.1 2) c) K s L e) := by
  refine ⟨ok_X6_copyFrom, ?_⟩
  refine Rch.go rfl ?_
  refine Rch.i_ne rfl (fun _ => ?_) (fun q => absurd rfl q)
  refine Rch.go rfl ?_
  refine Rch.copy rfl (by decide +kernel) rfl (by decide +kernel) rfl rfl rfl rfl rfl (nn := 162) rfl (by decide) (by decide) (by decide) ?_
  exact Rch.rv rfl rfl (by decide) (by decide) ⟨rfl, rfl⟩
theorem t_X6_copyTo__r3 (c : FA) (K : KS) (s : FA) (L : LS9) (e : AH) : Ct m_X6_copyTo X0 [.ref 1, .ref (5 + 3)] (HP c K s L e) (fun rv h => rv = none ∧ h = HP c (vup K.1 3 (cp c (K.1 3)), K.2) s L e) := by
  refine ⟨ok_X6_copyTo, ?_⟩
  refine Rch.go rfl ?_
  refine Rch.i_ne rfl (fun _ => ?_) (fun q => absurd rfl q)
  refine Rch.go rfl ?_
  refine Rch.copy rfl (by decide +kernel) rfl (by decide +kernel) rfl rfl rfl rfl rfl (nn := 162) rfl (by decide) (by decide) (by decide) ?_
  exact Rch.rv rfl rfl (by decide) (by decide) ⟨rfl, rfl⟩
theorem t_X6_copyFrom__r3 (c : FA) (K : KS) (s : FA) (L : LS9) (e : AH) : Ct m_X6_copyFrom X0 [.ref 1, .ref (5 + 3)] (HP c K s L e) (fun rv h => rv = none ∧ h = HP (cp (K.1 3) c) K s L e) := by
  refine ⟨ok_X6_copyFrom, ?_⟩
  refine Rch.go rfl ?_
  refine Rch.i_ne rfl (fun _ => ?_) (fun q => absurd rfl q)
  refine Rch.go rfl ?_
  refine Rch.copy rfl (by decide +kernel) rfl (by decide +kernel) rfl rfl rfl rfl rfl (nn := 162) rfl (by decide) (by decide) (by decide) ?_
  exact Rch.rv rfl rfl (by decide) (by decide) ⟨rfl, rfl⟩
def rc9 (c : FA) (K : KS) (n q : Nat) : KS := (vup K.1 n (cp c (K.1 n)), nI ((n + 1) % 4), nI (if q < 4 then q + 1 else 4), K.2.2.2)
theorem min4 {q : Nat} (hq : q ≤ 4) : (if (4 : Int32) < nI q + 1 then 4 else nI q + 1) = nI (if q < 4 then q + 1 else 4) := by
  match q, hq with
  | 0, _ => decide
  | 1, _ => decide
  | 2, _ => decide
  | 3, _ => decide
  | 4, _ => decide
theorem t_X0_length (c : FA) (K : KS) (s : FA) (L : LS9) (e : AH) : Ct m_X0_length X0 [.ref 3] (HP c K s L e) (fun rv h => rv = some (.int K.2.2.1) ∧ h = HP c K s L e) := by
  refine ⟨ok_X0_length, ?_⟩
  refine Rch.go rfl ?_
  exact Rch.ri rfl rfl rfl (by decide) (by decide) ⟨rfl, rfl⟩
theorem t_X0_record (c : FA) (r : Nat → FA) (K : FA × Int32 × FA × Int32 × FA × FA × Int32 × Int32) (s : FA) (L : LS9) (e : AH) {n q : Nat} (hn : n < 4) (hq : q ≤ 4) : Ct m_X0_record X0 [.ref 3, .ref 1] (HP c (r, nI n, nI q, K) s L e) (fun rv h => rv = none ∧ h = HP c (rc9 c (r, nI n, nI q, K) n q) s L e) := by
  refine ⟨ok_X0_record, ?_⟩
  match n, hn with
  | 0, _ =>
    refine Rch.go rfl ?_
    refine Rch.z_lt rfl (fun z => absurd (show nI 0 < 0 from z) (by decide)) (fun _ => ?_)
    refine Rch.go rfl ?_
    refine Rch.i_lt rfl (fun _ => ?_) (fun z => absurd (show nI 0 < 4 by decide) z)
    refine Rch.go rfl ?_
    refine Rch.st 1 (τ := (26, [(0, .ref 3), (1, .ref 1)], [.ref (5 + 0), .ref 1], HP c (r, nI 0, nI q, K) s L e, 0, 0)) rfl ?_
    refine Rch.call 0 (t_X6_copyTo__r0 c _ s L e) rfl rfl g_X0_25 om_X6_copyTo rfl (fun _ _ _ q => q) rfl rfl rfl rfl ⟨rfl, rfl⟩ ⟨by decide, by decide⟩ (fun _ _ q => by obtain ⟨_, rfl⟩ := q; first | with_reducible rfl | rw [HP_len, HP_len]) (fun rv9 h9 q9 => ?_)
    obtain ⟨rfl, rfl⟩ := q9
    refine Rch.go rfl ?_
    refine Rch.min rfl (by decide +kernel) rfl rfl rfl (by decide) (by decide) ?_
    rw [show (if (4 : Int32) < ((vup (r, nI 0, nI q, K).fst 0 (cp c ((r, nI 0, nI q, K).fst 0)), (r, nI 0, nI q, K).snd) : KS).2.2.1 + 1 then 4 else ((vup (r, nI 0, nI q, K).fst 0 (cp c ((r, nI 0, nI q, K).fst 0)), (r, nI 0, nI q, K).snd) : KS).2.2.1 + 1) = nI (if q < 4 then q + 1 else 4) from min4 hq]
    refine Rch.go rfl ?_
    refine Rch.rv rfl rfl (by decide) (by decide) ⟨rfl, ?_⟩
    show HP c (vup r 0 (cp c (r 0)), nI 0 + 1 - (nI 0 + 1) / 4 * 4, nI (if q < 4 then q + 1 else 4), K) s L e = _
    rw [show nI 0 + 1 - (nI 0 + 1) / 4 * 4 = nI ((0 + 1) % 4) by decide]
    rfl
  | 1, _ =>
    refine Rch.go rfl ?_
    refine Rch.z_lt rfl (fun z => absurd (show nI 1 < 0 from z) (by decide)) (fun _ => ?_)
    refine Rch.go rfl ?_
    refine Rch.i_lt rfl (fun _ => ?_) (fun z => absurd (show nI 1 < 4 by decide) z)
    refine Rch.go rfl ?_
    refine Rch.st 1 (τ := (26, [(0, .ref 3), (1, .ref 1)], [.ref (5 + 1), .ref 1], HP c (r, nI 1, nI q, K) s L e, 0, 0)) rfl ?_
    refine Rch.call 0 (t_X6_copyTo__r1 c _ s L e) rfl rfl g_X0_25 om_X6_copyTo rfl (fun _ _ _ q => q) rfl rfl rfl rfl ⟨rfl, rfl⟩ ⟨by decide, by decide⟩ (fun _ _ q => by obtain ⟨_, rfl⟩ := q; first | with_reducible rfl | rw [HP_len, HP_len]) (fun rv9 h9 q9 => ?_)
    obtain ⟨rfl, rfl⟩ := q9
    refine Rch.go rfl ?_
    refine Rch.min rfl (by decide +kernel) rfl rfl rfl (by decide) (by decide) ?_
    rw [show (if (4 : Int32) < ((vup (r, nI 1, nI q, K).fst 1 (cp c ((r, nI 1, nI q, K).fst 1)), (r, nI 1, nI q, K).snd) : KS).2.2.1 + 1 then 4 else ((vup (r, nI 1, nI q, K).fst 1 (cp c ((r, nI 1, nI q, K).fst 1)), (r, nI 1, nI q, K).snd) : KS).2.2.1 + 1) = nI (if q < 4 then q + 1 else 4) from min4 hq]
    refine Rch.go rfl ?_
    refine Rch.rv rfl rfl (by decide) (by decide) ⟨rfl, ?_⟩
    show HP c (vup r 1 (cp c (r 1)), nI 1 + 1 - (nI 1 + 1) / 4 * 4, nI (if q < 4 then q + 1 else 4), K) s L e = _
    rw [show nI 1 + 1 - (nI 1 + 1) / 4 * 4 = nI ((1 + 1) % 4) by decide]
    rfl
  | 2, _ =>
    refine Rch.go rfl ?_
    refine Rch.z_lt rfl (fun z => absurd (show nI 2 < 0 from z) (by decide)) (fun _ => ?_)
    refine Rch.go rfl ?_
    refine Rch.i_lt rfl (fun _ => ?_) (fun z => absurd (show nI 2 < 4 by decide) z)
    refine Rch.go rfl ?_
    refine Rch.st 1 (τ := (26, [(0, .ref 3), (1, .ref 1)], [.ref (5 + 2), .ref 1], HP c (r, nI 2, nI q, K) s L e, 0, 0)) rfl ?_
    refine Rch.call 0 (t_X6_copyTo__r2 c _ s L e) rfl rfl g_X0_25 om_X6_copyTo rfl (fun _ _ _ q => q) rfl rfl rfl rfl ⟨rfl, rfl⟩ ⟨by decide, by decide⟩ (fun _ _ q => by obtain ⟨_, rfl⟩ := q; first | with_reducible rfl | rw [HP_len, HP_len]) (fun rv9 h9 q9 => ?_)
    obtain ⟨rfl, rfl⟩ := q9
    refine Rch.go rfl ?_
    refine Rch.min rfl (by decide +kernel) rfl rfl rfl (by decide) (by decide) ?_
    rw [show (if (4 : Int32) < ((vup (r, nI 2, nI q, K).fst 2 (cp c ((r, nI 2, nI q, K).fst 2)), (r, nI 2, nI q, K).snd) : KS).2.2.1 + 1 then 4 else ((vup (r, nI 2, nI q, K).fst 2 (cp c ((r, nI 2, nI q, K).fst 2)), (r, nI 2, nI q, K).snd) : KS).2.2.1 + 1) = nI (if q < 4 then q + 1 else 4) from min4 hq]
    refine Rch.go rfl ?_
    refine Rch.rv rfl rfl (by decide) (by decide) ⟨rfl, ?_⟩
    show HP c (vup r 2 (cp c (r 2)), nI 2 + 1 - (nI 2 + 1) / 4 * 4, nI (if q < 4 then q + 1 else 4), K) s L e = _
    rw [show nI 2 + 1 - (nI 2 + 1) / 4 * 4 = nI ((2 + 1) % 4) by decide]
    rfl
  | 3, _ =>
    refine Rch.go rfl ?_
    refine Rch.z_lt rfl (fun z => absurd (show nI 3 < 0 from z) (by decide)) (fun _ => ?_)
    refine Rch.go rfl ?_
    refine Rch.i_lt rfl (fun _ => ?_) (fun z => absurd (show nI 3 < 4 by decide) z)
    refine Rch.go rfl ?_
    refine Rch.st 1 (τ := (26, [(0, .ref 3), (1, .ref 1)], [.ref (5 + 3), .ref 1], HP c (r, nI 3, nI q, K) s L e, 0, 0)) rfl ?_
    refine Rch.call 0 (t_X6_copyTo__r3 c _ s L e) rfl rfl g_X0_25 om_X6_copyTo rfl (fun _ _ _ q => q) rfl rfl rfl rfl ⟨rfl, rfl⟩ ⟨by decide, by decide⟩ (fun _ _ q => by obtain ⟨_, rfl⟩ := q; first | with_reducible rfl | rw [HP_len, HP_len]) (fun rv9 h9 q9 => ?_)
    obtain ⟨rfl, rfl⟩ := q9
    refine Rch.go rfl ?_
    refine Rch.min rfl (by decide +kernel) rfl rfl rfl (by decide) (by decide) ?_
    rw [show (if (4 : Int32) < ((vup (r, nI 3, nI q, K).fst 3 (cp c ((r, nI 3, nI q, K).fst 3)), (r, nI 3, nI q, K).snd) : KS).2.2.1 + 1 then 4 else ((vup (r, nI 3, nI q, K).fst 3 (cp c ((r, nI 3, nI q, K).fst 3)), (r, nI 3, nI q, K).snd) : KS).2.2.1 + 1) = nI (if q < 4 then q + 1 else 4) from min4 hq]
    refine Rch.go rfl ?_
    refine Rch.rv rfl rfl (by decide) (by decide) ⟨rfl, ?_⟩
    show HP c (vup r 3 (cp c (r 3)), nI 3 + 1 - (nI 3 + 1) / 4 * 4, nI (if q < 4 then q + 1 else 4), K) s L e = _
    rw [show nI 3 + 1 - (nI 3 + 1) / 4 * 4 = nI ((3 + 1) % 4) by decide]
    rfl
theorem t_X0_bringBack (c : FA) (r : Nat → FA) (K : FA × Int32 × FA × Int32 × FA × FA × Int32 × Int32) (s : FA) (L : LS9) (e : AH) {n q : Nat} (hn : n < 4) (hq0 : 0 < q) (hq : q ≤ 4) : Ct m_X0_bringBack X0 [.ref 3, .ref 1] (HP c (r, nI n, nI q, K) s L e) (fun rv h => rv = none ∧ h = HP (cp (r ((n + 3) % 4)) c) (r, nI ((n + 3) % 4), nI (q - 1), K) s L e) := by
  refine ⟨ok_X0_bringBack, ?_⟩
  have e1 : nI q - 1 = nI (q - 1) := by
    obtain ⟨q, rfl⟩ : ∃ p, q = p + 1 := ⟨q - 1, by omega⟩
    exact nI_pred q
  rw [← e1]
  match n, hn with
  | 0, _ =>
    refine Rch.go rfl ?_
    refine Rch.eq (τ := (15, [(0, .ref 3), (1, .ref 1), (2, .int (nI ((0 + 3) % 4)))], [.int (nI q)], HP c (r, nI 0, nI q, K) s L e, 0, 0)) (by
      show _ = ((15, [(0, .ref 3), (1, .ref 1), (2, .int (nI 0 + 4 - 1 - (nI 0 + 4 - 1) / 4 * 4))], [.int (nI q)], HP c (r, nI 0, nI q, K) s L e, 0, 0) : AS)
      rw [show nI 0 + 4 - 1 - (nI 0 + 4 - 1) / 4 * 4 = nI ((0 + 3) % 4) by decide]) ?_
    refine Rch.z_eq rfl (fun z => absurd z (nI_ne0 hq0 (by omega))) (fun _ => ?_)
    refine Rch.go rfl ?_
    refine Rch.z_lt rfl (fun z => absurd z (by decide)) (fun _ => ?_)
    refine Rch.go rfl ?_
    refine Rch.i_lt rfl (fun _ => ?_) (fun z => absurd (by decide) z)
    refine Rch.go rfl ?_
    refine Rch.st 1 (τ := (35, [(0, .ref 3), (1, .ref 1), (2, .int (nI ((0 + 3) % 4)))], [.ref (5 + (0 + 3) % 4), .ref 1], HP c (r, nI 0, nI q, K) s L e, 0, 0)) rfl ?_
    refine Rch.call 0 (t_X6_copyFrom__r3 c _ s L e) rfl rfl g_X0_35 om_X6_copyFrom rfl (fun _ _ _ q => q) rfl rfl rfl rfl ⟨rfl, rfl⟩ ⟨by decide, by decide⟩ (fun _ _ q => by obtain ⟨_, rfl⟩ := q; first | with_reducible rfl | rw [HP_len, HP_len]) (fun rv9 h9 q9 => ?_)
    obtain ⟨rfl, rfl⟩ := q9
    refine Rch.go rfl ?_
    exact Rch.rv rfl rfl (by decide) (by decide) ⟨rfl, rfl⟩
  | 1, _ =>
    refine Rch.go rfl ?_
    refine Rch.eq (τ := (15, [(0, .ref 3), (1, .ref 1), (2, .int (nI ((1 + 3) % 4)))], [.int (nI q)], HP c (r, nI 1, nI q, K) s L e, 0, 0)) (by
      show _ = ((15, [(0, .ref 3), (1, .ref 1), (2, .int (nI 1 + 4 - 1 - (nI 1 + 4 - 1) / 4 * 4))], [.int (nI q)], HP c (r, nI 1, nI q, K) s L e, 0, 0) : AS)
      rw [show nI 1 + 4 - 1 - (nI 1 + 4 - 1) / 4 * 4 = nI ((1 + 3) % 4) by decide]) ?_
    refine Rch.z_eq rfl (fun z => absurd z (nI_ne0 hq0 (by omega))) (fun _ => ?_)
    refine Rch.go rfl ?_
    refine Rch.z_lt rfl (fun z => absurd z (by decide)) (fun _ => ?_)
    refine Rch.go rfl ?_
    refine Rch.i_lt rfl (fun _ => ?_) (fun z => absurd (by decide) z)
    refine Rch.go rfl ?_
    refine Rch.st 1 (τ := (35, [(0, .ref 3), (1, .ref 1), (2, .int (nI ((1 + 3) % 4)))], [.ref (5 + (1 + 3) % 4), .ref 1], HP c (r, nI 1, nI q, K) s L e, 0, 0)) rfl ?_
    refine Rch.call 0 (t_X6_copyFrom__r0 c _ s L e) rfl rfl g_X0_35 om_X6_copyFrom rfl (fun _ _ _ q => q) rfl rfl rfl rfl ⟨rfl, rfl⟩ ⟨by decide, by decide⟩ (fun _ _ q => by obtain ⟨_, rfl⟩ := q; first | with_reducible rfl | rw [HP_len, HP_len]) (fun rv9 h9 q9 => ?_)
    obtain ⟨rfl, rfl⟩ := q9
    refine Rch.go rfl ?_
    exact Rch.rv rfl rfl (by decide) (by decide) ⟨rfl, rfl⟩
  | 2, _ =>
    refine Rch.go rfl ?_
    refine Rch.eq (τ := (15, [(0, .ref 3), (1, .ref 1), (2, .int (nI ((2 + 3) % 4)))], [.int (nI q)], HP c (r, nI 2, nI q, K) s L e, 0, 0)) (by
      show _ = ((15, [(0, .ref 3), (1, .ref 1), (2, .int (nI 2 + 4 - 1 - (nI 2 + 4 - 1) / 4 * 4))], [.int (nI q)], HP c (r, nI 2, nI q, K) s L e, 0, 0) : AS)
      rw [show nI 2 + 4 - 1 - (nI 2 + 4 - 1) / 4 * 4 = nI ((2 + 3) % 4) by decide]) ?_
    refine Rch.z_eq rfl (fun z => absurd z (nI_ne0 hq0 (by omega))) (fun _ => ?_)
    refine Rch.go rfl ?_
    refine Rch.z_lt rfl (fun z => absurd z (by decide)) (fun _ => ?_)
    refine Rch.go rfl ?_
    refine Rch.i_lt rfl (fun _ => ?_) (fun z => absurd (by decide) z)
    refine Rch.go rfl ?_
    refine Rch.st 1 (τ := (35, [(0, .ref 3), (1, .ref 1), (2, .int (nI ((2 + 3) % 4)))], [.ref (5 + (2 + 3) % 4), .ref 1], HP c (r, nI 2, nI q, K) s L e, 0, 0)) rfl ?_
    refine Rch.call 0 (t_X6_copyFrom__r1 c _ s L e) rfl rfl g_X0_35 om_X6_copyFrom rfl (fun _ _ _ q => q) rfl rfl rfl rfl ⟨rfl, rfl⟩ ⟨by decide, by decide⟩ (fun _ _ q => by obtain ⟨_, rfl⟩ := q; first | with_reducible rfl | rw [HP_len, HP_len]) (fun rv9 h9 q9 => ?_)
    obtain ⟨rfl, rfl⟩ := q9
    refine Rch.go rfl ?_
    exact Rch.rv rfl rfl (by decide) (by decide) ⟨rfl, rfl⟩
  | 3, _ =>
    refine Rch.go rfl ?_
    refine Rch.eq (τ := (15, [(0, .ref 3), (1, .ref 1), (2, .int (nI ((3 + 3) % 4)))], [.int (nI q)], HP c (r, nI 3, nI q, K) s L e, 0, 0)) (by
      show _ = ((15, [(0, .ref 3), (1, .ref 1), (2, .int (nI 3 + 4 - 1 - (nI 3 + 4 - 1) / 4 * 4))], [.int (nI q)], HP c (r, nI 3, nI q, K) s L e, 0, 0) : AS)
      rw [show nI 3 + 4 - 1 - (nI 3 + 4 - 1) / 4 * 4 = nI ((3 + 3) % 4) by decide]) ?_
    refine Rch.z_eq rfl (fun z => absurd z (nI_ne0 hq0 (by omega))) (fun _ => ?_)
    refine Rch.go rfl ?_
    refine Rch.z_lt rfl (fun z => absurd z (by decide)) (fun _ => ?_)
    refine Rch.go rfl ?_
    refine Rch.i_lt rfl (fun _ => ?_) (fun z => absurd (by decide) z)
    refine Rch.go rfl ?_
    refine Rch.st 1 (τ := (35, [(0, .ref 3), (1, .ref 1), (2, .int (nI ((3 + 3) % 4)))], [.ref (5 + (3 + 3) % 4), .ref 1], HP c (r, nI 3, nI q, K) s L e, 0, 0)) rfl ?_
    refine Rch.call 0 (t_X6_copyFrom__r2 c _ s L e) rfl rfl g_X0_35 om_X6_copyFrom rfl (fun _ _ _ q => q) rfl rfl rfl rfl ⟨rfl, rfl⟩ ⟨by decide, by decide⟩ (fun _ _ q => by obtain ⟨_, rfl⟩ := q; first | with_reducible rfl | rw [HP_len, HP_len]) (fun rv9 h9 q9 => ?_)
    obtain ⟨rfl, rfl⟩ := q9
    refine Rch.go rfl ?_
    exact Rch.rv rfl rfl (by decide) (by decide) ⟨rfl, rfl⟩
end
section
/-! ===== the tank that would set her upright ===== -/
abbrev US : Type := Int32 × Int32 × Int32
def uO (U : US) : AH := [.inr (.inr (3, [.int U.1, .int U.2.1, .int U.2.2]))]
theorem uO_len (U : US) : (uO U).length = 1 := rfl
def uP (A U : US) : AH := [.inr (.inr (3, [.int A.1, .int A.2.1, .int A.2.2])), .inr (.inr (3, [.int U.1, .int U.2.1, .int U.2.2]))]
def uQ (A B U : US) : AH := [.inr (.inr (3, [.int A.1, .int A.2.1, .int A.2.2])), .inr (.inr (3, [.int B.1, .int B.2.1, .int B.2.2])), .inr (.inr (3, [.int U.1, .int U.2.1, .int U.2.2]))]
def bet (U : US) (t ch li : Int32) : US := if abi li < abi U.2.2 then (t, ch, li) else U
def up1 (c : FA) (u t : Nat) (U : US) : US := if c t + nI u ≤ 100 then bet U (nI t) (nI u) (lof (lmo c + nI u * sidA (t % 2)) (wgt c + nI u)) else U
def up2 (c : FA) (u t : Nat) (U : US) : US := if c t - nI u < 0 then U else bet U (nI t) (-(nI u)) (lof (lmo c - nI u * sidA (t % 2)) (wgt c - nI u))
def upi (c : FA) (u : Nat) (U : US) : Nat → US
  | 0 => U
  | t + 1 => up2 c u t (up1 c u t (upi c u U t))
def upo (c : FA) : Nat → US
  | 0 => (0, 0, lst c)
  | n + 1 => upi c (n + 1) (upo c n) 8
section UP
theorem t_X7_takeIfBetter__0 (A B : US) (c : FA) (K : KS) (s : FA) (L : LS9) (U : US) (t ch li : Int32) : Ct m_X7_takeIfBetter X0 [.ref 14, .int t, .int ch, .int li] (HP c K s L (uO U)) (fun rv h => rv = none ∧ h = HP c K s L (uO (bet U t ch li))) := by
  refine ⟨ok_X7_takeIfBetter, ?_⟩
  refine Rch.go rfl ?_
  refine Rch.abs rfl (by decide +kernel) rfl rfl rfl (by decide) (by decide) ?_
  refine Rch.go rfl ?_
  refine Rch.abs rfl (by decide +kernel) rfl rfl rfl (by decide) (by decide) ?_
  refine Rch.i_ge rfl (fun z => ?_) (fun z => ?_)
  · rw [show bet U t ch li = U from if_neg (Int32.not_lt.mpr z)]
    exact Rch.rv rfl rfl (by decide) (by decide) ⟨rfl, rfl⟩
  · rw [show bet U t ch li = _ from if_pos (nle_lt z)]
    refine Rch.go rfl ?_
    exact Rch.rv rfl rfl (by decide) (by decide) ⟨rfl, rfl⟩
theorem t_X7_init__0 (A B : US) (c : FA) (K : KS) (s : FA) (L : LS9) {N : Nat} (hN : N ≤ 100) : Ct m_X7_init X0 [.ref 14, .ref 1, .int (nI N)] (HP c K s L (uO (0, 0, 0))) (fun rv h => rv = none ∧ h = HP c K s L (uO (upo c N))) := by
  refine ⟨ok_X7_init, ?_⟩
  refine Rch.go rfl ?_
  refine Rch.oi rfl (by decide +kernel) rfl rfl rfl ?_
  refine Rch.go rfl ?_
  refine Rch.call 0 (t_X6_listMoment c K s L _) rfl rfl g_X7_9 om_X6_listMoment rfl (fun _ _ _ q => q) rfl rfl rfl rfl ⟨rfl, rfl⟩ ⟨by decide, by decide⟩ (fun _ _ q => by obtain ⟨_, rfl⟩ := q; first | with_reducible rfl | (rw [HP_len, HP_len]; done) | rfl) (fun rv9 h9 q9 => ?_)
  obtain ⟨rfl, rfl⟩ := q9
  refine Rch.go rfl ?_
  refine Rch.call 0 (t_X6_weight c K s L _) rfl rfl g_X7_15 om_X6_weight rfl (fun _ _ _ q => q) rfl rfl rfl rfl ⟨rfl, rfl⟩ ⟨by decide, by decide⟩ (fun _ _ q => by obtain ⟨_, rfl⟩ := q; first | with_reducible rfl | (rw [HP_len, HP_len]; done) | rfl) (fun rv9 h9 q9 => ?_)
  obtain ⟨rfl, rfl⟩ := q9
  refine Rch.go rfl ?_
  refine Rch.call 1 (t_X6_listOf _ _ _) rfl rfl g_X7_18 om_X6_listOf rfl (fun _ _ _ q => q) rfl rfl rfl rfl ⟨rfl, rfl⟩ ⟨by decide, by decide⟩ (fun _ _ q => by obtain ⟨_, rfl⟩ := q; first | with_reducible rfl | (rw [HP_len, HP_len]; done) | rfl) (fun rv9 h9 q9 => ?_)
  obtain ⟨rfl, rfl⟩ := q9
  refine Rch.go rfl ?_
  refine Rch.for N (fun n => (31, [(0, .ref 14), (1, .ref 1), (2, .int (nI N)), (3, .int (lmo c)), (4, .int (wgt c)), (5, .int (nI (n + 1)))], [.int (nI N), .int (nI (n + 1))], HP c K s L (uO (upo c n)), 0, 0)) (fun n hn => ?_) ?_ 0 (by omega)
  · refine Rch.i_gt rfl (fun z => absurd z (nI_nlt (by omega) (by omega))) (fun _ => ?_)
    refine Rch.go rfl ?_
    refine Rch.tr (Ψ := fun τ => ∃ ls, τ = (41, (0, .ref 14) :: (1, .ref 1) :: (2, .int (nI N)) :: (3, .int (lmo c)) :: (4, .int (wgt c)) :: (5, .int (nI (n + 1))) :: ls, [.int 8, .int 8], HP c K s L (uO (upi c (n + 1) (upo c n) 8)), 0, 0) ∧ ls = [(6, .int 8)]) ?_ ?_
    · refine Rch.for 8 (fun t => (41, [(0, .ref 14), (1, .ref 1), (2, .int (nI N)), (3, .int (lmo c)), (4, .int (wgt c)), (5, .int (nI (n + 1))), (6, .int (nI t))], [.int 8, .int (nI t)], HP c K s L (uO (upi c (n + 1) (upo c n) t)), 0, 0)) (fun t ht => ?_) ?_ 0 (by omega)
      · refine Rch.i_ge rfl (fun z => absurd z (lo_in ht (by decide))) (fun _ => ?_)
        refine Rch.go rfl ?_
        refine Rch.call 0 (t_X6_at c K s L _ (zadd t) (by omega)) rfl rfl g_X7_28 om_X6_at rfl (fun _ _ _ q => q) rfl rfl rfl rfl ⟨rfl, rfl⟩ ⟨by decide, by decide⟩ (fun _ _ q => by obtain ⟨_, rfl⟩ := q; first | with_reducible rfl | (rw [HP_len, HP_len]; done) | rfl) (fun rv9 h9 q9 => ?_)
        obtain ⟨rfl, rfl⟩ := q9
        refine Rch.go rfl ?_
        refine Rch.xa rfl rfl rfl (nI_rem (d := 2) (by omega) (by decide)) (by omega) (by decide) ?_
        refine Rch.go rfl ?_
        have k2 : ∀ U : US, Rch m_X7_init X0 (102, [(0, .ref 14), (1, .ref 1), (2, .int (nI N)), (3, .int (lmo c)), (4, .int (wgt c)), (5, .int (nI (n + 1))), (6, .int (nI t)), (7, .int (c t)), (8, .int (nI (n + 1) * sidA (t % 2)))], [.int (c t - nI (n + 1))], HP c K s L (uO U), 0, 0) (fun τ => τ = (41, [(0, .ref 14), (1, .ref 1), (2, .int (nI N)), (3, .int (lmo c)), (4, .int (wgt c)), (5, .int (nI (n + 1))), (6, .int (nI (t + 1)))], [.int 8, .int (nI (t + 1))], HP c K s L (uO (up2 c (n + 1) t U)), 0, 0)) := by
          intro U
          refine Rch.z_lt rfl (fun z => ?_) (fun z => ?_)
          · rw [show up2 c (n + 1) t U = _ from if_pos z]
            refine Rch.go rfl ?_
            refine Rch.wp [0, 1, 2, 3, 4, 5, 6] rfl rfl (Rch.rf ?_)
            rw [nI_1]
            rfl
          · rw [show up2 c (n + 1) t U = _ from if_neg z]
            refine Rch.go rfl ?_
            refine Rch.call 1 (t_X6_listOf _ _ _) rfl rfl g_X7_18 om_X6_listOf rfl (fun _ _ _ q => q) rfl rfl rfl rfl ⟨rfl, rfl⟩ ⟨by decide, by decide⟩ (fun _ _ q => by obtain ⟨_, rfl⟩ := q; first | with_reducible rfl | (rw [HP_len, HP_len]; done) | rfl) (fun rv9 h9 q9 => ?_)
            obtain ⟨rfl, rfl⟩ := q9
            refine Rch.call 0 (t_X7_takeIfBetter__0 A B c K s L U _ _ _) rfl rfl g_X7_36 om_X7_takeIfBetter rfl (fun _ _ _ q => q) rfl rfl rfl rfl ⟨rfl, rfl⟩ ⟨by decide, by decide⟩ (fun _ _ q => by obtain ⟨_, rfl⟩ := q; first | with_reducible rfl | (rw [HP_len, HP_len]; done) | rfl) (fun rv9 h9 q9 => ?_)
            obtain ⟨rfl, rfl⟩ := q9
            refine Rch.go rfl ?_
            refine Rch.wp [0, 1, 2, 3, 4, 5, 6] rfl rfl (Rch.rf ?_)
            rw [nI_1]
            rfl
        refine Rch.i_gt rfl (fun z => ?_) (fun z => ?_)
        · refine Rch.go rfl ?_
          have e1 : up1 c (n + 1) t (upi c (n + 1) (upo c n) t) = upi c (n + 1) (upo c n) t := if_neg (Int32.not_le.mpr z)
          refine Rch.mono (k2 (upi c (n + 1) (upo c n) t)) (fun τ hτ => ?_)
          rw [hτ, show upi c (n + 1) (upo c n) (t + 1) = up2 c (n + 1) t (up1 c (n + 1) t (upi c (n + 1) (upo c n) t)) from rfl, e1]
        · have e1 : up1 c (n + 1) t (upi c (n + 1) (upo c n) t) = _ := if_pos (nlt_le z)
          refine Rch.go rfl ?_
          refine Rch.call 1 (t_X6_listOf _ _ _) rfl rfl g_X7_18 om_X6_listOf rfl (fun _ _ _ q => q) rfl rfl rfl rfl ⟨rfl, rfl⟩ ⟨by decide, by decide⟩ (fun _ _ q => by obtain ⟨_, rfl⟩ := q; first | with_reducible rfl | (rw [HP_len, HP_len]; done) | rfl) (fun rv9 h9 q9 => ?_)
          obtain ⟨rfl, rfl⟩ := q9
          refine Rch.call 0 (t_X7_takeIfBetter__0 A B c K s L _ _ _ _) rfl rfl g_X7_36 om_X7_takeIfBetter rfl (fun _ _ _ q => q) rfl rfl rfl rfl ⟨rfl, rfl⟩ ⟨by decide, by decide⟩ (fun _ _ q => by obtain ⟨_, rfl⟩ := q; first | with_reducible rfl | (rw [HP_len, HP_len]; done) | rfl) (fun rv9 h9 q9 => ?_)
          obtain ⟨rfl, rfl⟩ := q9
          refine Rch.go rfl ?_
          refine Rch.mono (k2 _) (fun τ hτ => ?_)
          rw [hτ, show upi c (n + 1) (upo c n) (t + 1) = up2 c (n + 1) t (up1 c (n + 1) t (upi c (n + 1) (upo c n) t)) from rfl, e1]
          rfl
      · exact Rch.rf ⟨_, rfl, rfl⟩
    · rintro τ ⟨ls, rfl, rfl⟩
      refine Rch.i_ge rfl (fun _ => ?_) (fun z => absurd (by decide) z)
      refine Rch.go rfl ?_
      refine Rch.wp [0, 1, 2, 3, 4, 5] rfl rfl (Rch.rf ?_)
      rw [nI_1]
      rfl
  · refine Rch.i_gt rfl (fun _ => ?_) (fun z => absurd (nI_lt (by omega) (by omega)) z)
    exact Rch.rv rfl rfl (by decide) (by decide) ⟨rfl, rfl⟩
theorem t_X7_takeIfBetter__1 (A B : US) (c : FA) (K : KS) (s : FA) (L : LS9) (U : US) (t ch li : Int32) : Ct m_X7_takeIfBetter X0 [.ref 15, .int t, .int ch, .int li] (HP c K s L (uP A U)) (fun rv h => rv = none ∧ h = HP c K s L (uP A (bet U t ch li))) := by
  refine ⟨ok_X7_takeIfBetter, ?_⟩
  refine Rch.go rfl ?_
  refine Rch.abs rfl (by decide +kernel) rfl rfl rfl (by decide) (by decide) ?_
  refine Rch.go rfl ?_
  refine Rch.abs rfl (by decide +kernel) rfl rfl rfl (by decide) (by decide) ?_
  refine Rch.i_ge rfl (fun z => ?_) (fun z => ?_)
  · rw [show bet U t ch li = U from if_neg (Int32.not_lt.mpr z)]
    exact Rch.rv rfl rfl (by decide) (by decide) ⟨rfl, rfl⟩
  · rw [show bet U t ch li = _ from if_pos (nle_lt z)]
    refine Rch.go rfl ?_
    exact Rch.rv rfl rfl (by decide) (by decide) ⟨rfl, rfl⟩
theorem t_X7_init__1 (A B : US) (c : FA) (K : KS) (s : FA) (L : LS9) {N : Nat} (hN : N ≤ 100) : Ct m_X7_init X0 [.ref 15, .ref 1, .int (nI N)] (HP c K s L (uP A (0, 0, 0))) (fun rv h => rv = none ∧ h = HP c K s L (uP A (upo c N))) := by
  refine ⟨ok_X7_init, ?_⟩
  refine Rch.go rfl ?_
  refine Rch.oi rfl (by decide +kernel) rfl rfl rfl ?_
  refine Rch.go rfl ?_
  refine Rch.call 0 (t_X6_listMoment c K s L _) rfl rfl g_X7_9 om_X6_listMoment rfl (fun _ _ _ q => q) rfl rfl rfl rfl ⟨rfl, rfl⟩ ⟨by decide, by decide⟩ (fun _ _ q => by obtain ⟨_, rfl⟩ := q; first | with_reducible rfl | (rw [HP_len, HP_len]; done) | rfl) (fun rv9 h9 q9 => ?_)
  obtain ⟨rfl, rfl⟩ := q9
  refine Rch.go rfl ?_
  refine Rch.call 0 (t_X6_weight c K s L _) rfl rfl g_X7_15 om_X6_weight rfl (fun _ _ _ q => q) rfl rfl rfl rfl ⟨rfl, rfl⟩ ⟨by decide, by decide⟩ (fun _ _ q => by obtain ⟨_, rfl⟩ := q; first | with_reducible rfl | (rw [HP_len, HP_len]; done) | rfl) (fun rv9 h9 q9 => ?_)
  obtain ⟨rfl, rfl⟩ := q9
  refine Rch.go rfl ?_
  refine Rch.call 1 (t_X6_listOf _ _ _) rfl rfl g_X7_18 om_X6_listOf rfl (fun _ _ _ q => q) rfl rfl rfl rfl ⟨rfl, rfl⟩ ⟨by decide, by decide⟩ (fun _ _ q => by obtain ⟨_, rfl⟩ := q; first | with_reducible rfl | (rw [HP_len, HP_len]; done) | rfl) (fun rv9 h9 q9 => ?_)
  obtain ⟨rfl, rfl⟩ := q9
  refine Rch.go rfl ?_
  refine Rch.for N (fun n => (31, [(0, .ref 15), (1, .ref 1), (2, .int (nI N)), (3, .int (lmo c)), (4, .int (wgt c)), (5, .int (nI (n + 1)))], [.int (nI N), .int (nI (n + 1))], HP c K s L (uP A (upo c n)), 0, 0)) (fun n hn => ?_) ?_ 0 (by omega)
  · refine Rch.i_gt rfl (fun z => absurd z (nI_nlt (by omega) (by omega))) (fun _ => ?_)
    refine Rch.go rfl ?_
    refine Rch.tr (Ψ := fun τ => ∃ ls, τ = (41, (0, .ref 15) :: (1, .ref 1) :: (2, .int (nI N)) :: (3, .int (lmo c)) :: (4, .int (wgt c)) :: (5, .int (nI (n + 1))) :: ls, [.int 8, .int 8], HP c K s L (uP A (upi c (n + 1) (upo c n) 8)), 0, 0) ∧ ls = [(6, .int 8)]) ?_ ?_
    · refine Rch.for 8 (fun t => (41, [(0, .ref 15), (1, .ref 1), (2, .int (nI N)), (3, .int (lmo c)), (4, .int (wgt c)), (5, .int (nI (n + 1))), (6, .int (nI t))], [.int 8, .int (nI t)], HP c K s L (uP A (upi c (n + 1) (upo c n) t)), 0, 0)) (fun t ht => ?_) ?_ 0 (by omega)
      · refine Rch.i_ge rfl (fun z => absurd z (lo_in ht (by decide))) (fun _ => ?_)
        refine Rch.go rfl ?_
        refine Rch.call 0 (t_X6_at c K s L _ (zadd t) (by omega)) rfl rfl g_X7_28 om_X6_at rfl (fun _ _ _ q => q) rfl rfl rfl rfl ⟨rfl, rfl⟩ ⟨by decide, by decide⟩ (fun _ _ q => by obtain ⟨_, rfl⟩ := q; first | with_reducible rfl | (rw [HP_len, HP_len]; done) | rfl) (fun rv9 h9 q9 => ?_)
        obtain ⟨rfl, rfl⟩ := q9
        refine Rch.go rfl ?_
        refine Rch.xa rfl rfl rfl (nI_rem (d := 2) (by omega) (by decide)) (by omega) (by decide) ?_
        refine Rch.go rfl ?_
        have k2 : ∀ U : US, Rch m_X7_init X0 (102, [(0, .ref 15), (1, .ref 1), (2, .int (nI N)), (3, .int (lmo c)), (4, .int (wgt c)), (5, .int (nI (n + 1))), (6, .int (nI t)), (7, .int (c t)), (8, .int (nI (n + 1) * sidA (t % 2)))], [.int (c t - nI (n + 1))], HP c K s L (uP A U), 0, 0) (fun τ => τ = (41, [(0, .ref 15), (1, .ref 1), (2, .int (nI N)), (3, .int (lmo c)), (4, .int (wgt c)), (5, .int (nI (n + 1))), (6, .int (nI (t + 1)))], [.int 8, .int (nI (t + 1))], HP c K s L (uP A (up2 c (n + 1) t U)), 0, 0)) := by
          intro U
          refine Rch.z_lt rfl (fun z => ?_) (fun z => ?_)
          · rw [show up2 c (n + 1) t U = _ from if_pos z]
            refine Rch.go rfl ?_
            refine Rch.wp [0, 1, 2, 3, 4, 5, 6] rfl rfl (Rch.rf ?_)
            rw [nI_1]
            rfl
          · rw [show up2 c (n + 1) t U = _ from if_neg z]
            refine Rch.go rfl ?_
            refine Rch.call 1 (t_X6_listOf _ _ _) rfl rfl g_X7_18 om_X6_listOf rfl (fun _ _ _ q => q) rfl rfl rfl rfl ⟨rfl, rfl⟩ ⟨by decide, by decide⟩ (fun _ _ q => by obtain ⟨_, rfl⟩ := q; first | with_reducible rfl | (rw [HP_len, HP_len]; done) | rfl) (fun rv9 h9 q9 => ?_)
            obtain ⟨rfl, rfl⟩ := q9
            refine Rch.call 0 (t_X7_takeIfBetter__1 A B c K s L U _ _ _) rfl rfl g_X7_36 om_X7_takeIfBetter rfl (fun _ _ _ q => q) rfl rfl rfl rfl ⟨rfl, rfl⟩ ⟨by decide, by decide⟩ (fun _ _ q => by obtain ⟨_, rfl⟩ := q; first | with_reducible rfl | (rw [HP_len, HP_len]; done) | rfl) (fun rv9 h9 q9 => ?_)
            obtain ⟨rfl, rfl⟩ := q9
            refine Rch.go rfl ?_
            refine Rch.wp [0, 1, 2, 3, 4, 5, 6] rfl rfl (Rch.rf ?_)
            rw [nI_1]
            rfl
        refine Rch.i_gt rfl (fun z => ?_) (fun z => ?_)
        · refine Rch.go rfl ?_
          have e1 : up1 c (n + 1) t (upi c (n + 1) (upo c n) t) = upi c (n + 1) (upo c n) t := if_neg (Int32.not_le.mpr z)
          refine Rch.mono (k2 (upi c (n + 1) (upo c n) t)) (fun τ hτ => ?_)
          rw [hτ, show upi c (n + 1) (upo c n) (t + 1) = up2 c (n + 1) t (up1 c (n + 1) t (upi c (n + 1) (upo c n) t)) from rfl, e1]
        · have e1 : up1 c (n + 1) t (upi c (n + 1) (upo c n) t) = _ := if_pos (nlt_le z)
          refine Rch.go rfl ?_
          refine Rch.call 1 (t_X6_listOf _ _ _) rfl rfl g_X7_18 om_X6_listOf rfl (fun _ _ _ q => q) rfl rfl rfl rfl ⟨rfl, rfl⟩ ⟨by decide, by decide⟩ (fun _ _ q => by obtain ⟨_, rfl⟩ := q; first | with_reducible rfl | (rw [HP_len, HP_len]; done) | rfl) (fun rv9 h9 q9 => ?_)
          obtain ⟨rfl, rfl⟩ := q9
          refine Rch.call 0 (t_X7_takeIfBetter__1 A B c K s L _ _ _ _) rfl rfl g_X7_36 om_X7_takeIfBetter rfl (fun _ _ _ q => q) rfl rfl rfl rfl ⟨rfl, rfl⟩ ⟨by decide, by decide⟩ (fun _ _ q => by obtain ⟨_, rfl⟩ := q; first | with_reducible rfl | (rw [HP_len, HP_len]; done) | rfl) (fun rv9 h9 q9 => ?_)
          obtain ⟨rfl, rfl⟩ := q9
          refine Rch.go rfl ?_
          refine Rch.mono (k2 _) (fun τ hτ => ?_)
          rw [hτ, show upi c (n + 1) (upo c n) (t + 1) = up2 c (n + 1) t (up1 c (n + 1) t (upi c (n + 1) (upo c n) t)) from rfl, e1]
          rfl
      · exact Rch.rf ⟨_, rfl, rfl⟩
    · rintro τ ⟨ls, rfl, rfl⟩
      refine Rch.i_ge rfl (fun _ => ?_) (fun z => absurd (by decide) z)
      refine Rch.go rfl ?_
      refine Rch.wp [0, 1, 2, 3, 4, 5] rfl rfl (Rch.rf ?_)
      rw [nI_1]
      rfl
  · refine Rch.i_gt rfl (fun _ => ?_) (fun z => absurd (nI_lt (by omega) (by omega)) z)
    exact Rch.rv rfl rfl (by decide) (by decide) ⟨rfl, rfl⟩
theorem t_X7_takeIfBetter__2 (A B : US) (c : FA) (K : KS) (s : FA) (L : LS9) (U : US) (t ch li : Int32) : Ct m_X7_takeIfBetter X0 [.ref 16, .int t, .int ch, .int li] (HP c K s L (uQ A B U)) (fun rv h => rv = none ∧ h = HP c K s L (uQ A B (bet U t ch li))) := by
  refine ⟨ok_X7_takeIfBetter, ?_⟩
  refine Rch.go rfl ?_
  refine Rch.abs rfl (by decide +kernel) rfl rfl rfl (by decide) (by decide) ?_
  refine Rch.go rfl ?_
  refine Rch.abs rfl (by decide +kernel) rfl rfl rfl (by decide) (by decide) ?_
  refine Rch.i_ge rfl (fun z => ?_) (fun z => ?_)
  · rw [show bet U t ch li = U from if_neg (Int32.not_lt.mpr z)]
    exact Rch.rv rfl rfl (by decide) (by decide) ⟨rfl, rfl⟩
  · rw [show bet U t ch li = _ from if_pos (nle_lt z)]
    refine Rch.go rfl ?_
    exact Rch.rv rfl rfl (by decide) (by decide) ⟨rfl, rfl⟩
theorem t_X7_init__2 (A B : US) (c : FA) (K : KS) (s : FA) (L : LS9) {N : Nat} (hN : N ≤ 100) : Ct m_X7_init X0 [.ref 16, .ref 1, .int (nI N)] (HP c K s L (uQ A B (0, 0, 0))) (fun rv h => rv = none ∧ h = HP c K s L (uQ A B (upo c N))) := by
  refine ⟨ok_X7_init, ?_⟩
  refine Rch.go rfl ?_
  refine Rch.oi rfl (by decide +kernel) rfl rfl rfl ?_
  refine Rch.go rfl ?_
  refine Rch.call 0 (t_X6_listMoment c K s L _) rfl rfl g_X7_9 om_X6_listMoment rfl (fun _ _ _ q => q) rfl rfl rfl rfl ⟨rfl, rfl⟩ ⟨by decide, by decide⟩ (fun _ _ q => by obtain ⟨_, rfl⟩ := q; first | with_reducible rfl | (rw [HP_len, HP_len]; done) | rfl) (fun rv9 h9 q9 => ?_)
  obtain ⟨rfl, rfl⟩ := q9
  refine Rch.go rfl ?_
  refine Rch.call 0 (t_X6_weight c K s L _) rfl rfl g_X7_15 om_X6_weight rfl (fun _ _ _ q => q) rfl rfl rfl rfl ⟨rfl, rfl⟩ ⟨by decide, by decide⟩ (fun _ _ q => by obtain ⟨_, rfl⟩ := q; first | with_reducible rfl | (rw [HP_len, HP_len]; done) | rfl) (fun rv9 h9 q9 => ?_)
  obtain ⟨rfl, rfl⟩ := q9
  refine Rch.go rfl ?_
  refine Rch.call 1 (t_X6_listOf _ _ _) rfl rfl g_X7_18 om_X6_listOf rfl (fun _ _ _ q => q) rfl rfl rfl rfl ⟨rfl, rfl⟩ ⟨by decide, by decide⟩ (fun _ _ q => by obtain ⟨_, rfl⟩ := q; first | with_reducible rfl | (rw [HP_len, HP_len]; done) | rfl) (fun rv9 h9 q9 => ?_)
  obtain ⟨rfl, rfl⟩ := q9
  refine Rch.go rfl ?_
  refine Rch.for N (fun n => (31, [(0, .ref 16), (1, .ref 1), (2, .int (nI N)), (3, .int (lmo c)), (4, .int (wgt c)), (5, .int (nI (n + 1)))], [.int (nI N), .int (nI (n + 1))], HP c K s L (uQ A B (upo c n)), 0, 0)) (fun n hn => ?_) ?_ 0 (by omega)
  · refine Rch.i_gt rfl (fun z => absurd z (nI_nlt (by omega) (by omega))) (fun _ => ?_)
    refine Rch.go rfl ?_
    refine Rch.tr (Ψ := fun τ => ∃ ls, τ = (41, (0, .ref 16) :: (1, .ref 1) :: (2, .int (nI N)) :: (3, .int (lmo c)) :: (4, .int (wgt c)) :: (5, .int (nI (n + 1))) :: ls, [.int 8, .int 8], HP c K s L (uQ A B (upi c (n + 1) (upo c n) 8)), 0, 0) ∧ ls = [(6, .int 8)]) ?_ ?_
    · refine Rch.for 8 (fun t => (41, [(0, .ref 16), (1, .ref 1), (2, .int (nI N)), (3, .int (lmo c)), (4, .int (wgt c)), (5, .int (nI (n + 1))), (6, .int (nI t))], [.int 8, .int (nI t)], HP c K s L (uQ A B (upi c (n + 1) (upo c n) t)), 0, 0)) (fun t ht => ?_) ?_ 0 (by omega)
      · refine Rch.i_ge rfl (fun z => absurd z (lo_in ht (by decide))) (fun _ => ?_)
        refine Rch.go rfl ?_
        refine Rch.call 0 (t_X6_at c K s L _ (zadd t) (by omega)) rfl rfl g_X7_28 om_X6_at rfl (fun _ _ _ q => q) rfl rfl rfl rfl ⟨rfl, rfl⟩ ⟨by decide, by decide⟩ (fun _ _ q => by obtain ⟨_, rfl⟩ := q; first | with_reducible rfl | (rw [HP_len, HP_len]; done) | rfl) (fun rv9 h9 q9 => ?_)
        obtain ⟨rfl, rfl⟩ := q9
        refine Rch.go rfl ?_
        refine Rch.xa rfl rfl rfl (nI_rem (d := 2) (by omega) (by decide)) (by omega) (by decide) ?_
        refine Rch.go rfl ?_
        have k2 : ∀ U : US, Rch m_X7_init X0 (102, [(0, .ref 16), (1, .ref 1), (2, .int (nI N)), (3, .int (lmo c)), (4, .int (wgt c)), (5, .int (nI (n + 1))), (6, .int (nI t)), (7, .int (c t)), (8, .int (nI (n + 1) * sidA (t % 2)))], [.int (c t - nI (n + 1))], HP c K s L (uQ A B U), 0, 0) (fun τ => τ = (41, [(0, .ref 16), (1, .ref 1), (2, .int (nI N)), (3, .int (lmo c)), (4, .int (wgt c)), (5, .int (nI (n + 1))), (6, .int (nI (t + 1)))], [.int 8, .int (nI (t + 1))], HP c K s L (uQ A B (up2 c (n + 1) t U)), 0, 0)) := by
          intro U
          refine Rch.z_lt rfl (fun z => ?_) (fun z => ?_)
          · rw [show up2 c (n + 1) t U = _ from if_pos z]
            refine Rch.go rfl ?_
            refine Rch.wp [0, 1, 2, 3, 4, 5, 6] rfl rfl (Rch.rf ?_)
            rw [nI_1]
            rfl
          · rw [show up2 c (n + 1) t U = _ from if_neg z]
            refine Rch.go rfl ?_
            refine Rch.call 1 (t_X6_listOf _ _ _) rfl rfl g_X7_18 om_X6_listOf rfl (fun _ _ _ q => q) rfl rfl rfl rfl ⟨rfl, rfl⟩ ⟨by decide, by decide⟩ (fun _ _ q => by obtain ⟨_, rfl⟩ := q; first | with_reducible rfl | (rw [HP_len, HP_len]; done) | rfl) (fun rv9 h9 q9 => ?_)
            obtain ⟨rfl, rfl⟩ := q9
            refine Rch.call 0 (t_X7_takeIfBetter__2 A B c K s L U _ _ _) rfl rfl g_X7_36 om_X7_takeIfBetter rfl (fun _ _ _ q => q) rfl rfl rfl rfl ⟨rfl, rfl⟩ ⟨by decide, by decide⟩ (fun _ _ q => by obtain ⟨_, rfl⟩ := q; first | with_reducible rfl | (rw [HP_len, HP_len]; done) | rfl) (fun rv9 h9 q9 => ?_)
            obtain ⟨rfl, rfl⟩ := q9
            refine Rch.go rfl ?_
            refine Rch.wp [0, 1, 2, 3, 4, 5, 6] rfl rfl (Rch.rf ?_)
            rw [nI_1]
            rfl
        refine Rch.i_gt rfl (fun z => ?_) (fun z => ?_)
        · refine Rch.go rfl ?_
          have e1 : up1 c (n + 1) t (upi c (n + 1) (upo c n) t) = upi c (n + 1) (upo c n) t := if_neg (Int32.not_le.mpr z)
          refine Rch.mono (k2 (upi c (n + 1) (upo c n) t)) (fun τ hτ => ?_)
          rw [hτ, show upi c (n + 1) (upo c n) (t + 1) = up2 c (n + 1) t (up1 c (n + 1) t (upi c (n + 1) (upo c n) t)) from rfl, e1]
        · have e1 : up1 c (n + 1) t (upi c (n + 1) (upo c n) t) = _ := if_pos (nlt_le z)
          refine Rch.go rfl ?_
          refine Rch.call 1 (t_X6_listOf _ _ _) rfl rfl g_X7_18 om_X6_listOf rfl (fun _ _ _ q => q) rfl rfl rfl rfl ⟨rfl, rfl⟩ ⟨by decide, by decide⟩ (fun _ _ q => by obtain ⟨_, rfl⟩ := q; first | with_reducible rfl | (rw [HP_len, HP_len]; done) | rfl) (fun rv9 h9 q9 => ?_)
          obtain ⟨rfl, rfl⟩ := q9
          refine Rch.call 0 (t_X7_takeIfBetter__2 A B c K s L _ _ _ _) rfl rfl g_X7_36 om_X7_takeIfBetter rfl (fun _ _ _ q => q) rfl rfl rfl rfl ⟨rfl, rfl⟩ ⟨by decide, by decide⟩ (fun _ _ q => by obtain ⟨_, rfl⟩ := q; first | with_reducible rfl | (rw [HP_len, HP_len]; done) | rfl) (fun rv9 h9 q9 => ?_)
          obtain ⟨rfl, rfl⟩ := q9
          refine Rch.go rfl ?_
          refine Rch.mono (k2 _) (fun τ hτ => ?_)
          rw [hτ, show upi c (n + 1) (upo c n) (t + 1) = up2 c (n + 1) t (up1 c (n + 1) t (upi c (n + 1) (upo c n) t)) from rfl, e1]
          rfl
      · exact Rch.rf ⟨_, rfl, rfl⟩
    · rintro τ ⟨ls, rfl, rfl⟩
      refine Rch.i_ge rfl (fun _ => ?_) (fun z => absurd (by decide) z)
      refine Rch.go rfl ?_
      refine Rch.wp [0, 1, 2, 3, 4, 5] rfl rfl (Rch.rf ?_)
      rw [nI_1]
      rfl
  · refine Rch.i_gt rfl (fun _ => ?_) (fun z => absurd (nI_lt (by omega) (by omega)) z)
    exact Rch.rv rfl rfl (by decide) (by decide) ⟨rfl, rfl⟩
end UP
end
section
/-! ===== the barge's own methods: acts ===== -/
abbrev KR : Type := FA × Int32 × FA × Int32 × FA × FA × Int32 × Int32
def hA (c : FA) (r : Nat → FA) (n q : Nat) (K : KR) (s : FA) (L : LS9) (o : Option FA) : AH := match o with
  | none => HP c (r, nI n, nI q, K) s L []
  | some c' => HP c' (rc9 c (r, nI n, nI q, K) n q) s L []
theorem hA_len {c : FA} {r : Nat → FA} {n q : Nat} {K : KR} {s : FA} {L : LS9} (o : Option FA) : (hA c r n q K s L o).length = (HP c (r, nI n, nI q, K) s L []).length := by
  cases o with
  | none => rw [HP_len]; exact HP_len _ _ s L _
  | some c' => rw [HP_len]; exact HP_len _ _ s L _
def ix (v : Int32) : Nat := v.toNatClampNeg
theorem ix_nI {j : Nat} (h : j < 2 ^ 31) : ix (nI j) = j := nI_clamp h
theorem i1 {p : Prop} [Decidable p] (z : ¬ (if p then (1 : Int32) else 0) = 0) : p := Decidable.not_not.mp (fun q => z (if10.mpr q))
theorem i0 {p : Prop} [Decidable p] (z : (if p then (1 : Int32) else 0) = 0) : ¬ p := if10.mp z
theorem rng {v M : Int32} {n : Nat} (hM : M = nI n) (hn : n < 2 ^ 31) (h : 0 ≤ v ∧ v ≤ M) : ∃ j, j ≤ n ∧ v = nI j := nI_of2 (hM ▸ nI_toInt hn) (fun q => absurd h.1 (Int32.not_le.mpr q)) h.2
def chg (c : FA) (j : Nat) (v : Int32) : Int32 × Option FA := if c j = v then (-1005, none) else (c j, some (upd c j v))
def lod (c : FA) (h l sh : Int32) : Int32 × Option FA :=
  if ¬ (0 ≤ h ∧ h ≤ 2) then (-1001, none) else if ¬ (0 ≤ l ∧ l ≤ 300) ∨ ¬ (-3 ≤ sh ∧ sh ≤ 3) then (-1002, none)
  else if c 130 < (wgt c - c (112 + ix h) + l) / 10 then (-1004, none)
  else if c (112 + ix h) = l ∧ c (115 + ix h) = sh then (-1005, none)
  else ((wgt c - c (112 + ix h) + l) / 10, some (upd (upd c (112 + ix h) l) (115 + ix h) sh))
def lek (c : FA) (t l : Int32) : Int32 × Option FA := if ¬ (0 ≤ t ∧ t ≤ 7) then (-1001, none) else if ¬ (0 ≤ l ∧ l ≤ 9) then (-1002, none) else chg c (8 + ix t) l
def sgr (c : FA) (g x : Int32) : Int32 × Option FA := if ¬ (0 ≤ g ∧ g ≤ 4) then (-1001, none) else if ¬ (1 ≤ x ∧ x ≤ 255) then (-1002, none) else chg c (118 + ix g) x
def leS (k : Nat) : Int32 := [(1 : Int32), 2, 50].getD k 0
def moS (k : Nat) : Int32 := [(9 : Int32), 99, 200].getD k 0
def stt (c : FA) (w v : Int32) : Int32 × Option FA := if ¬ (0 ≤ w ∧ w ≤ 2) ∨ ¬ (leS (ix w) ≤ v ∧ v ≤ moS (ix w)) then (-1002, none) else chg c (128 + ix w) v
def rby (k b : Int32) : Prop := if k = 0 ∨ k = 1 then 0 ≤ b ∧ b ≤ 4 else 1 ≤ b ∧ b ≤ 60
def ord (c : FA) (k b : Int32) (N : Nat) : Int32 × Option FA := if 12 ≤ N then (-1003, none) else (nI N + 1, some (upd (pat c N k b) 155 (nI N + 1)))
def stq (c : FA) (k : Int32) (N : Nat) : Int32 × Option FA := if ¬ (0 ≤ k ∧ k ≤ 4) then (-1002, none) else if hasB c k N = false then (-1005, none) else (nI N - nI (stk c k N).2, some (upd (stk c k N).1 155 (nI (stk c k N).2)))
def pas (c : FA) (m : Int32) (r : Nat) : Int32 × Option FA := if ¬ (1 ≤ m ∧ m ≤ 200) then (-1002, none) else (lst (mns (-1) (opn c 5) r c (ix m)), some (mns (-1) (opn c 5) r c (ix m)))
def sou (c : FA) (t : Int32) : Int32 × Option FA := if ¬ (0 ≤ t ∧ t ≤ 7) then (-1001, none) else (snd9 c (ix t) (ix t), some (snd9 c (ix t)))
section MA
theorem t_X8_isWithin (v lo hi : Int32) (h0 : AH) : Ct m_X8_isWithin X0 [.int v, .int lo, .int hi] h0 (fun rv h => rv = some (.int (if lo ≤ v ∧ v ≤ hi then 1 else 0)) ∧ h = h0) := by
  refine ⟨ok_X8_isWithin, ?_⟩
  refine Rch.go rfl ?_
  refine Rch.i_lt rfl (fun z => ?_) (fun z => ?_)
  · refine Rch.go rfl ?_
    exact Rch.ri rfl rfl rfl (by decide) (by decide) ⟨by rw [if_neg (fun q => Int32.not_le.mpr z q.1)], rfl⟩
  · refine Rch.go rfl ?_
    refine Rch.i_gt rfl (fun z2 => ?_) (fun z2 => ?_)
    · refine Rch.go rfl ?_
      exact Rch.ri rfl rfl rfl (by decide) (by decide) ⟨by rw [if_neg (fun q => Int32.not_le.mpr z2 q.2)], rfl⟩
    · refine Rch.go rfl ?_
      exact Rch.ri rfl rfl rfl (by decide) (by decide) ⟨by rw [if_pos ⟨nlt_le z, nlt_le z2⟩], rfl⟩
theorem t_X8_isRightBy (k b : Int32) (h0 : AH) : Ct m_X8_isRightBy X0 [.int k, .int b] h0 (fun rv h => (rv = some (.int 1) ∧ rby k b ∨ rv = some (.int 0) ∧ ¬ rby k b) ∧ h = h0) := by
  refine ⟨ok_X8_isRightBy, ?_⟩
  refine Rch.go rfl ?_
  refine Rch.call 1 (t_X8_isValve _ _) rfl rfl g_X8_187 om_X8_isValve rfl (fun _ _ _ q => q) rfl rfl rfl rfl ⟨rfl, rfl⟩ ⟨by decide, by decide⟩ (fun _ _ q => by obtain ⟨_, rfl⟩ := q; first | with_reducible rfl | (rw [HP_len, HP_len]; done) | rfl) (fun rv9 h9 q9 => ?_)
  obtain ⟨rfl, rfl⟩ := q9
  refine Rch.z_eq rfl (fun z => ?_) (fun z => ?_)
  · have e1 : rby k b = (1 ≤ b ∧ b ≤ 60) := if_neg (i0 z)
    refine Rch.go rfl ?_
    refine Rch.call 1 (t_X8_isWithin _ _ _ _) rfl rfl g_X8_34 om_X8_isWithin rfl (fun _ _ _ q => q) rfl rfl rfl rfl ⟨rfl, rfl⟩ ⟨by decide, by decide⟩ (fun _ _ q => by obtain ⟨_, rfl⟩ := q; first | with_reducible rfl | (rw [HP_len, HP_len]; done) | rfl) (fun rv9 h9 q9 => ?_)
    obtain ⟨rfl, rfl⟩ := q9
    refine Rch.go rfl ?_
    rw [e1]
    by_cases w : 1 ≤ b ∧ b ≤ 60
    · rw [if_pos w]
      exact Rch.ri rfl rfl rfl (by decide) (by decide) (⟨Or.inl ⟨rfl, w⟩, rfl⟩)
    · rw [if_neg w]
      exact Rch.ri rfl rfl rfl (by decide) (by decide) (⟨Or.inr ⟨rfl, w⟩, rfl⟩)
  · have e1 : rby k b = (0 ≤ b ∧ b ≤ 4) := if_pos (i1 z)
    refine Rch.go rfl ?_
    refine Rch.call 1 (t_X8_isWithin _ _ _ _) rfl rfl g_X8_34 om_X8_isWithin rfl (fun _ _ _ q => q) rfl rfl rfl rfl ⟨rfl, rfl⟩ ⟨by decide, by decide⟩ (fun _ _ q => by obtain ⟨_, rfl⟩ := q; first | with_reducible rfl | (rw [HP_len, HP_len]; done) | rfl) (fun rv9 h9 q9 => ?_)
    obtain ⟨rfl, rfl⟩ := q9
    refine Rch.go rfl ?_
    rw [e1]
    by_cases w : 0 ≤ b ∧ b ≤ 4
    · rw [if_pos w]
      exact Rch.ri rfl rfl rfl (by decide) (by decide) (⟨Or.inl ⟨rfl, w⟩, rfl⟩)
    · rw [if_neg w]
      exact Rch.ri rfl rfl rfl (by decide) (by decide) (⟨Or.inr ⟨rfl, w⟩, rfl⟩)
theorem t_X8_change (c : FA) (r : Nat → FA) (K : KR) (s : FA) (L : LS9) {n q : Nat} (hn : n < 4) (hq : q ≤ 4) {i : Int32} {j : Nat} (v : Int32) (hi : i = nI j) (hj : j < 162) : Ct m_X8_change X0 [.ref 0, .int i, .int v] (HP c (r, nI n, nI q, K) s L []) (fun rv h => rv = some (.int (chg c j v).1) ∧ h = hA c r n q K s L (chg c j v).2) := by
  refine ⟨ok_X8_change, ?_⟩
  refine Rch.go rfl ?_
  refine Rch.call 0 (t_X6_at c _ s L _ hi hj) rfl rfl g_X8_38 om_X6_at rfl (fun _ _ _ q => q) rfl rfl rfl rfl ⟨rfl, rfl⟩ ⟨by decide, by decide⟩ (fun _ _ q => by obtain ⟨_, rfl⟩ := q; first | with_reducible rfl | (rw [HP_len, HP_len]; done) | rfl) (fun rv9 h9 q9 => ?_)
  obtain ⟨rfl, rfl⟩ := q9
  refine Rch.go rfl ?_
  refine Rch.i_ne rfl (fun z => ?_) (fun z => ?_)
  · rw [show chg c j v = _ from if_pos z]
    refine Rch.go rfl ?_
    exact Rch.ri rfl rfl rfl (by decide) (by decide) ⟨rfl, rfl⟩
  · rw [show chg c j v = _ from if_neg z]
    refine Rch.go rfl ?_
    refine Rch.call 0 (t_X0_record c r K s L _ hn hq) rfl rfl g_X8_49 om_X0_record rfl (fun _ _ _ q => q) rfl rfl rfl rfl ⟨rfl, rfl⟩ ⟨by decide, by decide⟩ (fun _ _ q => by obtain ⟨_, rfl⟩ := q; first | with_reducible rfl | (rw [HP_len, HP_len]; done) | rfl) (fun rv9 h9 q9 => ?_)
    obtain ⟨rfl, rfl⟩ := q9
    refine Rch.go rfl ?_
    refine Rch.call 0 (t_X6_put c _ s L _ _ hi hj) rfl rfl g_X8_53 om_X6_put rfl (fun _ _ _ q => q) rfl rfl rfl rfl ⟨rfl, rfl⟩ ⟨by decide, by decide⟩ (fun _ _ q => by obtain ⟨_, rfl⟩ := q; first | with_reducible rfl | (rw [HP_len, HP_len]; done) | rfl) (fun rv9 h9 q9 => ?_)
    obtain ⟨rfl, rfl⟩ := q9
    refine Rch.go rfl ?_
    exact Rch.ri rfl rfl rfl (by decide) (by decide) ⟨rfl, rfl⟩
theorem t_X8_load (c : FA) (r : Nat → FA) (K : KR) (s : FA) (L : LS9) {n q : Nat} (hn : n < 4) (hq : q ≤ 4) (h l sh : Int32) : Ct m_X8_load X0 [.ref 0, .int h, .int l, .int sh] (HP c (r, nI n, nI q, K) s L []) (fun rv h9 => rv = some (.int (lod c h l sh).1) ∧ h9 = hA c r n q K s L (lod c h l sh).2) := by
  refine ⟨ok_X8_load, ?_⟩
  refine Rch.go rfl ?_
  refine Rch.call 1 (t_X8_isWithin _ _ _ _) rfl rfl g_X8_34 om_X8_isWithin rfl (fun _ _ _ q => q) rfl rfl rfl rfl ⟨rfl, rfl⟩ ⟨by decide, by decide⟩ (fun _ _ q => by obtain ⟨_, rfl⟩ := q; first | with_reducible rfl | (rw [HP_len, HP_len]; done) | rfl) (fun rv9 h9 q9 => ?_)
  obtain ⟨rfl, rfl⟩ := q9
  refine Rch.z_ne rfl (fun z => ?_) (fun z => ?_)
  · rw [show lod c h l sh = _ from if_pos (i0 z)]
    refine Rch.go rfl ?_
    exact Rch.ri rfl rfl rfl (by decide) (by decide) ⟨rfl, rfl⟩
  have w := i1 z
  obtain ⟨j, hj, rfl⟩ := rng (n := 2) rfl (by decide) w
  have ej : ix (nI j) = j := ix_nI (by omega)
  refine Rch.go rfl ?_
  refine Rch.call 1 (t_X8_isWithin _ _ _ _) rfl rfl g_X8_34 om_X8_isWithin rfl (fun _ _ _ q => q) rfl rfl rfl rfl ⟨rfl, rfl⟩ ⟨by decide, by decide⟩ (fun _ _ q => by obtain ⟨_, rfl⟩ := q; first | with_reducible rfl | (rw [HP_len, HP_len]; done) | rfl) (fun rv9 h9 q9 => ?_)
  obtain ⟨rfl, rfl⟩ := q9
  refine Rch.z_eq rfl (fun z1 => ?_) (fun z1 => ?_)
  · rw [show lod c (nI j) l sh = (-1002, none) by unfold lod; rw [if_neg (fun q => q w), if_pos (Or.inl (i0 z1))]]
    refine Rch.go rfl ?_
    exact Rch.ri rfl rfl rfl (by decide) (by decide) ⟨rfl, rfl⟩
  refine Rch.go rfl ?_
  refine Rch.call 1 (t_X8_isWithin _ _ _ _) rfl rfl g_X8_34 om_X8_isWithin rfl (fun _ _ _ q => q) rfl rfl rfl rfl ⟨rfl, rfl⟩ ⟨by decide, by decide⟩ (fun _ _ q => by obtain ⟨_, rfl⟩ := q; first | with_reducible rfl | (rw [HP_len, HP_len]; done) | rfl) (fun rv9 h9 q9 => ?_)
  obtain ⟨rfl, rfl⟩ := q9
  refine Rch.z_ne rfl (fun z2 => ?_) (fun z2 => ?_)
  · rw [show lod c (nI j) l sh = (-1002, none) by unfold lod; rw [if_neg (fun q => q w), if_pos (Or.inr (i0 z2))]]
    refine Rch.go rfl ?_
    exact Rch.ri rfl rfl rfl (by decide) (by decide) ⟨rfl, rfl⟩
  have w2 : ¬ (¬ (0 ≤ l ∧ l ≤ 300) ∨ ¬ (-3 ≤ sh ∧ sh ≤ 3)) := fun q => q.elim (fun q => q (i1 z1)) (fun q => q (i1 z2))
  refine Rch.go rfl ?_
  refine Rch.call 0 (t_X6_at c _ s L _ (nI_add 112 j) (by omega)) rfl rfl g_X8_38 om_X6_at rfl (fun _ _ _ q => q) rfl rfl rfl rfl ⟨rfl, rfl⟩ ⟨by decide, by decide⟩ (fun _ _ q => by obtain ⟨_, rfl⟩ := q; first | with_reducible rfl | (rw [HP_len, HP_len]; done) | rfl) (fun rv9 h9 q9 => ?_)
  obtain ⟨rfl, rfl⟩ := q9
  refine Rch.go rfl ?_
  refine Rch.call 0 (t_X6_weight c _ s L _) rfl rfl g_X8_42 om_X6_weight rfl (fun _ _ _ q => q) rfl rfl rfl rfl ⟨rfl, rfl⟩ ⟨by decide, by decide⟩ (fun _ _ q => by obtain ⟨_, rfl⟩ := q; first | with_reducible rfl | (rw [HP_len, HP_len]; done) | rfl) (fun rv9 h9 q9 => ?_)
  obtain ⟨rfl, rfl⟩ := q9
  refine Rch.go rfl ?_
  refine Rch.call 1 (t_X6_draughtOf _ _) rfl rfl g_X8_46 om_X6_draughtOf rfl (fun _ _ _ q => q) rfl rfl rfl rfl ⟨rfl, rfl⟩ ⟨by decide, by decide⟩ (fun _ _ q => by obtain ⟨_, rfl⟩ := q; first | with_reducible rfl | (rw [HP_len, HP_len]; done) | rfl) (fun rv9 h9 q9 => ?_)
  obtain ⟨rfl, rfl⟩ := q9
  refine Rch.go rfl ?_
  refine Rch.call 0 (t_X6_at c _ s L _ (j := 130) rfl (by decide)) rfl rfl g_X8_38 om_X6_at rfl (fun _ _ _ q => q) rfl rfl rfl rfl ⟨rfl, rfl⟩ ⟨by decide, by decide⟩ (fun _ _ q => by obtain ⟨_, rfl⟩ := q; first | with_reducible rfl | (rw [HP_len, HP_len]; done) | rfl) (fun rv9 h9 q9 => ?_)
  obtain ⟨rfl, rfl⟩ := q9
  refine Rch.i_le rfl (fun z3 => ?_) (fun z3 => ?_)
  rotate_left
  · rw [show lod c (nI j) l sh = (-1004, none) by unfold lod; rw [if_neg (fun q => q w), if_neg w2, ej, if_pos (nle_lt z3)]]
    refine Rch.go rfl ?_
    exact Rch.ri rfl rfl rfl (by decide) (by decide) ⟨rfl, rfl⟩
  have z3 := Int32.not_lt.mpr z3
  refine Rch.go rfl ?_
  have fin : ¬ (c (112 + j) = l ∧ c (115 + j) = sh) → Rch m_X8_load X0 (120, [(0, .ref 0), (1, .int (nI j)), (2, .int l), (3, .int sh), (4, .int (c (112 + j))), (5, .int ((wgt c - c (112 + j) + l) / 10))], [.ref 1, .ref 3], HP c (r, nI n, nI q, K) s L [], 0, 0) (RetP m_X8_load (fun rv h9 => rv = some (.int (lod c (nI j) l sh).1) ∧ h9 = hA c r n q K s L (lod c (nI j) l sh).2)) := by
    intro z4
    rw [show lod c (nI j) l sh = _ by unfold lod; rw [if_neg (fun q => q w), if_neg w2, ej, if_neg z3, if_neg z4]]
    refine Rch.call 0 (t_X0_record c r K s L _ hn hq) rfl rfl g_X8_49 om_X0_record rfl (fun _ _ _ q => q) rfl rfl rfl rfl ⟨rfl, rfl⟩ ⟨by decide, by decide⟩ (fun _ _ q => by obtain ⟨_, rfl⟩ := q; first | with_reducible rfl | (rw [HP_len, HP_len]; done) | rfl) (fun rv9 h9 q9 => ?_)
    obtain ⟨rfl, rfl⟩ := q9
    refine Rch.go rfl ?_
    refine Rch.call 0 (t_X6_put c _ s L _ _ (nI_add 112 j) (by omega)) rfl rfl g_X8_53 om_X6_put rfl (fun _ _ _ q => q) rfl rfl rfl rfl ⟨rfl, rfl⟩ ⟨by decide, by decide⟩ (fun _ _ q => by obtain ⟨_, rfl⟩ := q; first | with_reducible rfl | (rw [HP_len, HP_len]; done) | rfl) (fun rv9 h9 q9 => ?_)
    obtain ⟨rfl, rfl⟩ := q9
    refine Rch.go rfl ?_
    refine Rch.call 0 (t_X6_put _ _ s L _ _ (nI_add 115 j) (by omega)) rfl rfl g_X8_53 om_X6_put rfl (fun _ _ _ q => q) rfl rfl rfl rfl ⟨rfl, rfl⟩ ⟨by decide, by decide⟩ (fun _ _ q => by obtain ⟨_, rfl⟩ := q; first | with_reducible rfl | (rw [HP_len, HP_len]; done) | rfl) (fun rv9 h9 q9 => ?_)
    obtain ⟨rfl, rfl⟩ := q9
    refine Rch.go rfl ?_
    exact Rch.ri rfl rfl rfl (by decide) (by decide) ⟨rfl, rfl⟩
  refine Rch.i_ne rfl (fun z4 => ?_) (fun z4 => ?_)
  · refine Rch.go rfl ?_
    refine Rch.call 0 (t_X6_at c _ s L _ (nI_add 115 j) (by omega)) rfl rfl g_X8_38 om_X6_at rfl (fun _ _ _ q => q) rfl rfl rfl rfl ⟨rfl, rfl⟩ ⟨by decide, by decide⟩ (fun _ _ q => by obtain ⟨_, rfl⟩ := q; first | with_reducible rfl | (rw [HP_len, HP_len]; done) | rfl) (fun rv9 h9 q9 => ?_)
    obtain ⟨rfl, rfl⟩ := q9
    refine Rch.go rfl ?_
    refine Rch.i_ne rfl (fun z5 => ?_) (fun z5 => ?_)
    · rw [show lod c (nI j) l sh = (-1005, none) by unfold lod; rw [if_neg (fun q => q w), if_neg w2, ej, if_neg z3, if_pos ⟨z4, z5⟩]]
      refine Rch.go rfl ?_
      exact Rch.ri rfl rfl rfl (by decide) (by decide) ⟨rfl, rfl⟩
    · exact Rch.go rfl (fin (fun q => z5 q.2))
  · exact Rch.go rfl (fin (fun q => z4 q.1))
theorem t_X8_leak (c : FA) (r : Nat → FA) (K : KR) (s : FA) (L : LS9) {n q : Nat} (hn : n < 4) (hq : q ≤ 4) (t l : Int32) : Ct m_X8_leak X0 [.ref 0, .int t, .int l] (HP c (r, nI n, nI q, K) s L []) (fun rv h9 => rv = some (.int (lek c t l).1) ∧ h9 = hA c r n q K s L (lek c t l).2) := by
  refine ⟨ok_X8_leak, ?_⟩
  refine Rch.go rfl ?_
  refine Rch.call 1 (t_X8_isWithin _ _ _ _) rfl rfl g_X8_34 om_X8_isWithin rfl (fun _ _ _ q => q) rfl rfl rfl rfl ⟨rfl, rfl⟩ ⟨by decide, by decide⟩ (fun _ _ q => by obtain ⟨_, rfl⟩ := q; first | with_reducible rfl | (rw [HP_len, HP_len]; done) | rfl) (fun rv9 h9 q9 => ?_)
  obtain ⟨rfl, rfl⟩ := q9
  refine Rch.z_ne rfl (fun z => ?_) (fun z => ?_)
  · rw [show lek c t l = _ from if_pos (i0 z)]
    refine Rch.go rfl ?_
    exact Rch.ri rfl rfl rfl (by decide) (by decide) ⟨rfl, rfl⟩
  have w := i1 z
  obtain ⟨j, hj, rfl⟩ := rng (n := 7) rfl (by decide) w
  have ej : ix (nI j) = j := ix_nI (by omega)
  refine Rch.go rfl ?_
  refine Rch.call 1 (t_X8_isWithin _ _ _ _) rfl rfl g_X8_34 om_X8_isWithin rfl (fun _ _ _ q => q) rfl rfl rfl rfl ⟨rfl, rfl⟩ ⟨by decide, by decide⟩ (fun _ _ q => by obtain ⟨_, rfl⟩ := q; first | with_reducible rfl | (rw [HP_len, HP_len]; done) | rfl) (fun rv9 h9 q9 => ?_)
  obtain ⟨rfl, rfl⟩ := q9
  refine Rch.z_ne rfl (fun z1 => ?_) (fun z1 => ?_)
  · rw [show lek c (nI j) l = (-1002, none) by unfold lek; rw [if_neg (fun q => q w), if_pos (i0 z1)]]
    refine Rch.go rfl ?_
    exact Rch.ri rfl rfl rfl (by decide) (by decide) ⟨rfl, rfl⟩
  have w1 := i1 z1
  rw [show lek c (nI j) l = chg c (8 + j) l by unfold lek; rw [if_neg (fun q => q w), if_neg (fun q => q w1), ej]]
  refine Rch.go rfl ?_
  refine Rch.call 0 (t_X8_change c r K s L hn hq l (nI_add 8 j) (by omega)) rfl rfl g_X8_57 om_X8_change rfl (fun _ _ _ q => q) rfl rfl rfl rfl ⟨rfl, rfl⟩ ⟨by decide, by decide⟩ (fun _ _ q => by obtain ⟨_, rfl⟩ := q; exact hA_len _) (fun rv9 h9 q9 => ?_)
  obtain ⟨rfl, rfl⟩ := q9
  exact Rch.ri rfl rfl rfl (by decide) (by decide) ⟨rfl, rfl⟩
theorem t_X8_setGroup (c : FA) (r : Nat → FA) (K : KR) (s : FA) (L : LS9) {n q : Nat} (hn : n < 4) (hq : q ≤ 4) (t l : Int32) : Ct m_X8_setGroup X0 [.ref 0, .int t, .int l] (HP c (r, nI n, nI q, K) s L []) (fun rv h9 => rv = some (.int (sgr c t l).1) ∧ h9 = hA c r n q K s L (sgr c t l).2) := by
  refine ⟨ok_X8_setGroup, ?_⟩
  refine Rch.go rfl ?_
  refine Rch.call 1 (t_X8_isWithin _ _ _ _) rfl rfl g_X8_34 om_X8_isWithin rfl (fun _ _ _ q => q) rfl rfl rfl rfl ⟨rfl, rfl⟩ ⟨by decide, by decide⟩ (fun _ _ q => by obtain ⟨_, rfl⟩ := q; first | with_reducible rfl | (rw [HP_len, HP_len]; done) | rfl) (fun rv9 h9 q9 => ?_)
  obtain ⟨rfl, rfl⟩ := q9
  refine Rch.z_ne rfl (fun z => ?_) (fun z => ?_)
  · rw [show sgr c t l = _ from if_pos (i0 z)]
    refine Rch.go rfl ?_
    exact Rch.ri rfl rfl rfl (by decide) (by decide) ⟨rfl, rfl⟩
  have w := i1 z
  obtain ⟨j, hj, rfl⟩ := rng (n := 4) rfl (by decide) w
  have ej : ix (nI j) = j := ix_nI (by omega)
  refine Rch.go rfl ?_
  refine Rch.call 1 (t_X8_isWithin _ _ _ _) rfl rfl g_X8_34 om_X8_isWithin rfl (fun _ _ _ q => q) rfl rfl rfl rfl ⟨rfl, rfl⟩ ⟨by decide, by decide⟩ (fun _ _ q => by obtain ⟨_, rfl⟩ := q; first | with_reducible rfl | (rw [HP_len, HP_len]; done) | rfl) (fun rv9 h9 q9 => ?_)
  obtain ⟨rfl, rfl⟩ := q9
  refine Rch.z_ne rfl (fun z1 => ?_) (fun z1 => ?_)
  · rw [show sgr c (nI j) l = (-1002, none) by unfold sgr; rw [if_neg (fun q => q w), if_pos (i0 z1)]]
    refine Rch.go rfl ?_
    exact Rch.ri rfl rfl rfl (by decide) (by decide) ⟨rfl, rfl⟩
  have w1 := i1 z1
  rw [show sgr c (nI j) l = chg c (118 + j) l by unfold sgr; rw [if_neg (fun q => q w), if_neg (fun q => q w1), ej]]
  refine Rch.go rfl ?_
  refine Rch.call 0 (t_X8_change c r K s L hn hq l (nI_add 118 j) (by omega)) rfl rfl g_X8_57 om_X8_change rfl (fun _ _ _ q => q) rfl rfl rfl rfl ⟨rfl, rfl⟩ ⟨by decide, by decide⟩ (fun _ _ q => by obtain ⟨_, rfl⟩ := q; exact hA_len _) (fun rv9 h9 q9 => ?_)
  obtain ⟨rfl, rfl⟩ := q9
  exact Rch.ri rfl rfl rfl (by decide) (by decide) ⟨rfl, rfl⟩
theorem t_X8_set (c : FA) (r : Nat → FA) (K : KR) (s : FA) (L : LS9) {n q : Nat} (hn : n < 4) (hq : q ≤ 4) (t l : Int32) : Ct m_X8_set X0 [.ref 0, .int t, .int l] (HP c (r, nI n, nI q, K) s L []) (fun rv h9 => rv = some (.int (stt c t l).1) ∧ h9 = hA c r n q K s L (stt c t l).2) := by
  refine ⟨ok_X8_set, ?_⟩
  refine Rch.go rfl ?_
  refine Rch.call 1 (t_X8_isWithin _ _ _ _) rfl rfl g_X8_34 om_X8_isWithin rfl (fun _ _ _ q => q) rfl rfl rfl rfl ⟨rfl, rfl⟩ ⟨by decide, by decide⟩ (fun _ _ q => by obtain ⟨_, rfl⟩ := q; first | with_reducible rfl | (rw [HP_len, HP_len]; done) | rfl) (fun rv9 h9 q9 => ?_)
  obtain ⟨rfl, rfl⟩ := q9
  refine Rch.z_eq rfl (fun z => ?_) (fun z => ?_)
  · rw [show stt c t l = _ from if_pos (Or.inl (i0 z))]
    refine Rch.go rfl ?_
    exact Rch.ri rfl rfl rfl (by decide) (by decide) ⟨rfl, rfl⟩
  have w := i1 z
  obtain ⟨j, hj, rfl⟩ := rng (n := 2) rfl (by decide) w
  have ej : ix (nI j) = j := ix_nI (by omega)
  refine Rch.go rfl ?_
  refine Rch.xa rfl rfl rfl rfl (by omega) (by decide) ?_
  refine Rch.go rfl ?_
  refine Rch.xa rfl rfl rfl rfl (by omega) (by decide) ?_
  refine Rch.call 1 (t_X8_isWithin _ (leS j) (moS j) _) rfl rfl g_X8_34 om_X8_isWithin rfl (fun _ _ _ q => q) rfl rfl rfl rfl ⟨rfl, rfl⟩ ⟨by decide, by decide⟩ (fun _ _ q => by obtain ⟨_, rfl⟩ := q; first | with_reducible rfl | (rw [HP_len, HP_len]; done) | rfl) (fun rv9 h9 q9 => ?_)
  obtain ⟨rfl, rfl⟩ := q9
  refine Rch.z_ne rfl (fun z1 => ?_) (fun z1 => ?_)
  · rw [show stt c (nI j) l = (-1002, none) by unfold stt; rw [ej, if_pos (Or.inr (i0 z1))]]
    refine Rch.go rfl ?_
    exact Rch.ri rfl rfl rfl (by decide) (by decide) ⟨rfl, rfl⟩
  have w1 := i1 z1
  rw [show stt c (nI j) l = chg c (128 + j) l by unfold stt; rw [ej, if_neg (fun q => q.elim (fun q => q w) (fun q => q w1))]]
  refine Rch.go rfl ?_
  refine Rch.call 0 (t_X8_change c r K s L hn hq l (nI_add 128 j) (by omega)) rfl rfl g_X8_57 om_X8_change rfl (fun _ _ _ q => q) rfl rfl rfl rfl ⟨rfl, rfl⟩ ⟨by decide, by decide⟩ (fun _ _ q => by obtain ⟨_, rfl⟩ := q; exact hA_len _) (fun rv9 h9 q9 => ?_)
  obtain ⟨rfl, rfl⟩ := q9
  exact Rch.ri rfl rfl rfl (by decide) (by decide) ⟨rfl, rfl⟩
theorem t_X8_order (c : FA) (r : Nat → FA) (K : KR) (s : FA) (L : LS9) {n q : Nat} (hn : n < 4) (hq : q ≤ 4) (k b : Int32) {N : Nat} (hN : c 155 = nI N) (hN2 : N ≤ 12) : Ct m_X8_order X0 [.ref 0, .int k, .int b] (HP c (r, nI n, nI q, K) s L []) (fun rv h9 => ((0 ≤ k ∧ k ≤ 4) ∧ rby k b → rv = some (.int (ord c k b N).1) ∧ h9 = hA c r n q K s L (ord c k b N).2) ∧ (¬ ((0 ≤ k ∧ k ≤ 4) ∧ rby k b) → rv = some (.int (-1002)) ∧ h9 = HP c (r, nI n, nI q, K) s L [])) := by
  refine ⟨ok_X8_order, ?_⟩
  refine Rch.go rfl ?_
  refine Rch.call 1 (t_X8_isWithin _ _ _ _) rfl rfl g_X8_34 om_X8_isWithin rfl (fun _ _ _ q => q) rfl rfl rfl rfl ⟨rfl, rfl⟩ ⟨by decide, by decide⟩ (fun _ _ q => by obtain ⟨_, rfl⟩ := q; first | with_reducible rfl | (rw [HP_len, HP_len]; done) | rfl) (fun rv9 h9 q9 => ?_)
  obtain ⟨rfl, rfl⟩ := q9
  refine Rch.z_eq rfl (fun z => ?_) (fun z => ?_)
  · refine Rch.go rfl ?_
    exact Rch.ri rfl rfl rfl (by decide) (by decide) (⟨fun q => absurd q.1 (i0 z), fun _ => ⟨rfl, rfl⟩⟩)
  have w := i1 z
  refine Rch.go rfl ?_
  refine Rch.call 1 (t_X8_isRightBy _ _ _) rfl rfl g_X8_67 om_X8_isRightBy rfl (fun _ _ _ q => q) rfl rfl rfl rfl ⟨rfl, rfl⟩ ⟨by decide, by decide⟩ (fun _ _ q => by obtain ⟨_, rfl⟩ := q; first | with_reducible rfl | (rw [HP_len, HP_len]; done) | rfl) (fun rv9 h9 q9 => ?_)
  obtain ⟨⟨rfl, hb⟩ | ⟨rfl, hb⟩, rfl⟩ := q9
  rotate_left
  · refine Rch.z_ne rfl (fun _ => ?_) (fun q => absurd rfl q)
    refine Rch.go rfl ?_
    exact Rch.ri rfl rfl rfl (by decide) (by decide) (⟨fun q => absurd q.2 hb, fun _ => ⟨rfl, rfl⟩⟩)
  refine Rch.z_ne rfl (fun q => absurd q (by decide)) (fun _ => ?_)
  refine Rch.go rfl ?_
  refine Rch.call 0 (t_X6_at c _ s L _ (j := 155) rfl (by decide)) rfl rfl g_X8_38 om_X6_at rfl (fun _ _ _ q => q) rfl rfl rfl rfl ⟨rfl, rfl⟩ ⟨by decide, by decide⟩ (fun _ _ q => by obtain ⟨_, rfl⟩ := q; first | with_reducible rfl | (rw [HP_len, HP_len]; done) | rfl) (fun rv9 h9 q9 => ?_)
  obtain ⟨rfl, rfl⟩ := q9
  refine Rch.go rfl ?_
  rw [hN]
  refine Rch.i_lt rfl (fun z => ?_) (fun z => ?_)
  rotate_left
  · have hl : 12 ≤ N := Nat.not_lt.mp (fun q => z ((nI_ltI (by omega) (by decide)).mpr q : nI N < nI 12))
    refine Rch.go rfl ?_
    exact Rch.ri rfl rfl rfl (by decide) (by decide) (⟨fun _ => by rw [show ord c k b N = _ from if_pos hl]; exact ⟨rfl, rfl⟩, fun q => absurd ⟨w, hb⟩ q⟩)
  have hl : N < 12 := (nI_ltI (by omega) (by decide)).mp (show nI N < nI 12 from z)
  refine Rch.go rfl ?_
  refine Rch.call 0 (t_X0_record c r K s L _ hn hq) rfl rfl g_X8_49 om_X0_record rfl (fun _ _ _ q => q) rfl rfl rfl rfl ⟨rfl, rfl⟩ ⟨by decide, by decide⟩ (fun _ _ q => by obtain ⟨_, rfl⟩ := q; first | with_reducible rfl | (rw [HP_len, HP_len]; done) | rfl) (fun rv9 h9 q9 => ?_)
  obtain ⟨rfl, rfl⟩ := q9
  refine Rch.go rfl ?_
  refine Rch.call 1 (t_X2_append c _ s L _ k b hN (by omega)) rfl rfl g_X8_71 om_X2_append rfl (fun _ _ _ q => q) rfl rfl rfl rfl ⟨rfl, rfl⟩ ⟨by decide, by decide⟩ (fun _ _ q => by obtain ⟨_, rfl⟩ := q; first | with_reducible rfl | (rw [HP_len, HP_len]; done) | rfl) (fun rv9 h9 q9 => ?_)
  obtain ⟨rfl, rfl⟩ := q9
  refine Rch.go rfl ?_
  rw [show apd c N k b = _ from if_pos hl]
  refine Rch.call 0 (t_X6_at _ _ s L _ (j := 155) rfl (by decide)) rfl rfl g_X8_38 om_X6_at rfl (fun _ _ _ q => q) rfl rfl rfl rfl ⟨rfl, rfl⟩ ⟨by decide, by decide⟩ (fun _ _ q => by obtain ⟨_, rfl⟩ := q; first | with_reducible rfl | (rw [HP_len, HP_len]; done) | rfl) (fun rv9 h9 q9 => ?_)
  obtain ⟨rfl, rfl⟩ := q9
  exact Rch.ri rfl rfl rfl (by decide) (by decide) (⟨fun _ => by rw [show ord c k b N = _ from if_neg (by omega)]; exact ⟨rfl, rfl⟩, fun q => absurd ⟨w, hb⟩ q⟩)
theorem t_X8_strike (c : FA) (r : Nat → FA) (K : KR) (s : FA) (L : LS9) {n q : Nat} (hn : n < 4) (hq : q ≤ 4) (k : Int32) {N : Nat} (hN : c 155 = nI N) (hN2 : N ≤ 12) : Ct m_X8_strike X0 [.ref 0, .int k] (HP c (r, nI n, nI q, K) s L []) (fun rv h9 => rv = some (.int (stq c k N).1) ∧ h9 = hA c r n q K s L (stq c k N).2) := by
  refine ⟨ok_X8_strike, ?_⟩
  refine Rch.go rfl ?_
  refine Rch.call 1 (t_X8_isWithin _ _ _ _) rfl rfl g_X8_34 om_X8_isWithin rfl (fun _ _ _ q => q) rfl rfl rfl rfl ⟨rfl, rfl⟩ ⟨by decide, by decide⟩ (fun _ _ q => by obtain ⟨_, rfl⟩ := q; first | with_reducible rfl | (rw [HP_len, HP_len]; done) | rfl) (fun rv9 h9 q9 => ?_)
  obtain ⟨rfl, rfl⟩ := q9
  refine Rch.z_ne rfl (fun z => ?_) (fun z => ?_)
  · rw [show stq c k N = _ from if_pos (i0 z)]
    refine Rch.go rfl ?_
    exact Rch.ri rfl rfl rfl (by decide) (by decide) ⟨rfl, rfl⟩
  have w := i1 z
  refine Rch.go rfl ?_
  refine Rch.call 1 (t_X2_has c _ s L _ k hN hN2) rfl rfl g_X8_89 om_X2_has rfl (fun _ _ _ q => q) rfl rfl rfl rfl ⟨rfl, rfl⟩ ⟨by decide, by decide⟩ (fun _ _ q => by obtain ⟨_, rfl⟩ := q; first | with_reducible rfl | (rw [HP_len, HP_len]; done) | rfl) (fun rv9 h9 q9 => ?_)
  obtain ⟨rfl, rfl⟩ := q9
  refine Rch.z_ne rfl (fun z1 => ?_) (fun z1 => ?_)
  · have hf : hasB c k N = false := by
      cases h9 : hasB c k N with
      | false => rfl
      | true => exact absurd h9 (i0 z1)
    rw [show stq c k N = (-1005, none) by unfold stq; rw [if_neg (fun q => q w), if_pos hf]]
    refine Rch.go rfl ?_
    exact Rch.ri rfl rfl rfl (by decide) (by decide) ⟨rfl, rfl⟩
  have ht := i1 z1
  rw [show stq c k N = _ by unfold stq; rw [if_neg (fun q => q w), if_neg (by rw [ht]; decide)]]
  refine Rch.go rfl ?_
  refine Rch.call 0 (t_X0_record c r K s L _ hn hq) rfl rfl g_X8_49 om_X0_record rfl (fun _ _ _ q => q) rfl rfl rfl rfl ⟨rfl, rfl⟩ ⟨by decide, by decide⟩ (fun _ _ q => by obtain ⟨_, rfl⟩ := q; first | with_reducible rfl | (rw [HP_len, HP_len]; done) | rfl) (fun rv9 h9 q9 => ?_)
  obtain ⟨rfl, rfl⟩ := q9
  refine Rch.go rfl ?_
  refine Rch.call 1 (t_X2_strikeOut c _ s L _ k hN hN2) rfl rfl g_X8_93 om_X2_strikeOut rfl (fun _ _ _ q => q) rfl rfl rfl rfl ⟨rfl, rfl⟩ ⟨by decide, by decide⟩ (fun _ _ q => by obtain ⟨_, rfl⟩ := q; first | with_reducible rfl | (rw [HP_len, HP_len]; done) | rfl) (fun rv9 h9 q9 => ?_)
  obtain ⟨rfl, rfl⟩ := q9
  exact Rch.ri rfl rfl rfl (by decide) (by decide) ⟨rfl, rfl⟩
theorem t_X8_pass (c : FA) (r : Nat → FA) (K : KR) (s : FA) (L : LS9) {n q : Nat} (hn : n < 4) (hq : q ≤ 4) (m : Int32) {R : Nat} (hR : c 128 = nI R) (hR2 : R < 2 ^ 31) : Ct m_X8_pass X0 [.ref 0, .int m] (HP c (r, nI n, nI q, K) s L []) (fun rv h9 => rv = some (.int (pas c m R).1) ∧ h9 = hA c r n q K s L (pas c m R).2) := by
  refine ⟨ok_X8_pass, ?_⟩
  refine Rch.go rfl ?_
  refine Rch.call 1 (t_X8_isWithin _ _ _ _) rfl rfl g_X8_34 om_X8_isWithin rfl (fun _ _ _ q => q) rfl rfl rfl rfl ⟨rfl, rfl⟩ ⟨by decide, by decide⟩ (fun _ _ q => by obtain ⟨_, rfl⟩ := q; first | with_reducible rfl | (rw [HP_len, HP_len]; done) | rfl) (fun rv9 h9 q9 => ?_)
  obtain ⟨rfl, rfl⟩ := q9
  refine Rch.z_ne rfl (fun z => ?_) (fun z => ?_)
  · rw [show pas c m R = _ from if_pos (i0 z)]
    refine Rch.go rfl ?_
    exact Rch.ri rfl rfl rfl (by decide) (by decide) ⟨rfl, rfl⟩
  have w := i1 z
  obtain ⟨j, hj, rfl⟩ := rng (n := 200) rfl (by decide) ⟨Int32.le_trans (by decide) w.1, w.2⟩
  have ej : ix (nI j) = j := ix_nI (by omega)
  rw [show pas c (nI j) R = _ by unfold pas; rw [if_neg (fun q => q w), ej]]
  refine Rch.go rfl ?_
  refine Rch.call 0 (t_X0_record c r K s L _ hn hq) rfl rfl g_X8_49 om_X0_record rfl (fun _ _ _ q => q) rfl rfl rfl rfl ⟨rfl, rfl⟩ ⟨by decide, by decide⟩ (fun _ _ q => by obtain ⟨_, rfl⟩ := q; first | with_reducible rfl | (rw [HP_len, HP_len]; done) | rfl) (fun rv9 h9 q9 => ?_)
  obtain ⟨rfl, rfl⟩ := q9
  refine Rch.go rfl ?_
  refine Rch.call 1 (t_X1_run c _ s L _ (-1) (by omega) hR hR2) rfl rfl g_X8_100 om_X1_run rfl (fun _ _ _ q => q) rfl rfl rfl rfl ⟨rfl, rfl⟩ ⟨by decide, by decide⟩ (fun _ _ q => by obtain ⟨_, rfl⟩ := q; first | with_reducible rfl | (rw [HP_len, HP_len]; done) | rfl) (fun rv9 h9 q9 => ?_)
  obtain ⟨rfl, rfl⟩ := q9
  refine Rch.go rfl ?_
  refine Rch.call 0 (t_X6_list _ _ s L _) rfl rfl g_X8_105 om_X6_list rfl (fun _ _ _ q => q) rfl rfl rfl rfl ⟨rfl, rfl⟩ ⟨by decide, by decide⟩ (fun _ _ q => by obtain ⟨_, rfl⟩ := q; first | with_reducible rfl | (rw [HP_len, HP_len]; done) | rfl) (fun rv9 h9 q9 => ?_)
  obtain ⟨rfl, rfl⟩ := q9
  exact Rch.ri rfl rfl rfl (by decide) (by decide) ⟨rfl, rfl⟩
theorem t_X8_sound (c : FA) (r : Nat → FA) (K : KR) (s : FA) (L : LS9) {n q : Nat} (hn : n < 4) (hq : q ≤ 4) (t : Int32) : Ct m_X8_sound X0 [.ref 0, .int t] (HP c (r, nI n, nI q, K) s L []) (fun rv h9 => rv = some (.int (sou c t).1) ∧ h9 = hA c r n q K s L (sou c t).2) := by
  refine ⟨ok_X8_sound, ?_⟩
  refine Rch.go rfl ?_
  refine Rch.call 1 (t_X8_isWithin _ _ _ _) rfl rfl g_X8_34 om_X8_isWithin rfl (fun _ _ _ q => q) rfl rfl rfl rfl ⟨rfl, rfl⟩ ⟨by decide, by decide⟩ (fun _ _ q => by obtain ⟨_, rfl⟩ := q; first | with_reducible rfl | (rw [HP_len, HP_len]; done) | rfl) (fun rv9 h9 q9 => ?_)
  obtain ⟨rfl, rfl⟩ := q9
  refine Rch.z_ne rfl (fun z => ?_) (fun z => ?_)
  · rw [show sou c t = _ from if_pos (i0 z)]
    refine Rch.go rfl ?_
    exact Rch.ri rfl rfl rfl (by decide) (by decide) ⟨rfl, rfl⟩
  have w := i1 z
  obtain ⟨j, hj, rfl⟩ := rng (n := 7) rfl (by decide) w
  have ej : ix (nI j) = j := ix_nI (by omega)
  rw [show sou c (nI j) = _ by unfold sou; rw [if_neg (fun q => q w), ej]]
  refine Rch.go rfl ?_
  refine Rch.call 0 (t_X0_record c r K s L _ hn hq) rfl rfl g_X8_49 om_X0_record rfl (fun _ _ _ q => q) rfl rfl rfl rfl ⟨rfl, rfl⟩ ⟨by decide, by decide⟩ (fun _ _ q => by obtain ⟨_, rfl⟩ := q; first | with_reducible rfl | (rw [HP_len, HP_len]; done) | rfl) (fun rv9 h9 q9 => ?_)
  obtain ⟨rfl, rfl⟩ := q9
  refine Rch.go rfl ?_
  refine Rch.call 1 (t_X5_put c _ s L _ (by omega)) rfl rfl g_X8_108 om_X5_put rfl (fun _ _ _ q => q) rfl rfl rfl rfl ⟨rfl, rfl⟩ ⟨by decide, by decide⟩ (fun _ _ q => by obtain ⟨_, rfl⟩ := q; first | with_reducible rfl | (rw [HP_len, HP_len]; done) | rfl) (fun rv9 h9 q9 => ?_)
  obtain ⟨rfl, rfl⟩ := q9
  refine Rch.go rfl ?_
  refine Rch.call 0 (t_X6_at _ _ s L _ (zadd j) (by omega)) rfl rfl g_X8_38 om_X6_at rfl (fun _ _ _ q => q) rfl rfl rfl rfl ⟨rfl, rfl⟩ ⟨by decide, by decide⟩ (fun _ _ q => by obtain ⟨_, rfl⟩ := q; first | with_reducible rfl | (rw [HP_len, HP_len]; done) | rfl) (fun rv9 h9 q9 => ?_)
  obtain ⟨rfl, rfl⟩ := q9
  exact Rch.ri rfl rfl rfl (by decide) (by decide) ⟨rfl, rfl⟩
end MA
end
section
/-! ===== the barge's own methods: the rest ===== -/
def RowOk (c : FA) (N : Nat) : Prop := c 155 = nI N ∧ N ≤ 12 ∧ ∀ p, p < N → ∃ k b : Nat, c (131 + p) = nI k ∧ c (143 + p) = nI b ∧ k < 5 ∧ (k < 2 → b < 5) ∧ (2 ≤ k → 1 ≤ b) ∧ b ≤ 60
/-- the cells that no minute changes -/
def fx (j : Nat) : Prop := (8 ≤ j ∧ j < 16) ∨ (32 ≤ j ∧ j < 115) ∨ (118 ≤ j ∧ j < 156) ∨ j = 160
theorem ad_ne {c : FA} {k j : Nat} {v : Int32} (h : j ≠ k) : ad c k v j = c j := pk_un h
theorem mvb_fx {c : FA} {k j : Nat} {u : Int32} (hk : k < 8) (h : fx j) : mvb c k u j = c j := by
  unfold fx at h
  unfold mvb
  rw [ad_ne (by omega), ad_ne (by omega)]
theorem mvu_fx {m x : Int32} {c d : FA} {j : Nat} (h : fx j) (hd : mvu m c x = some d) : d j = c j := by
  have h' := h
  unfold fx at h'
  unfold mvu at hd
  split at hd
  · unfold mfu at hd
    split at hd
    · cases hd
    · next k hk => cases hd; rw [ad_ne (by omega), mvb_fx (tfi_lt hk) h]
  · split at hd
    · unfold meu at hd
      split at hd
      · cases hd
      · next k hk => cases hd; rw [ad_ne (by omega), mvb_fx (tem_lt hk) h]
    · split at hd
      · unfold mlu at hd
        split at hd
        · cases hd
        · next f hf =>
          split at hd
          · cases hd
          · next t ht => cases hd; rw [ad_ne (by omega), mvb_fx (emp_lt ht) h, mvb_fx (tlo_lt hf) h]
      · cases hd
theorem pmp_fx {m x : Int32} {j : Nat} (h : fx j) : ∀ (d : Nat) (c : FA), pmp m x d c j = c j
  | 0, c => rfl
  | d + 1, c => by
    cases hv : mvu m c x with
    | none =>
      have e1 : pmp m x (d + 1) c = c := by show (match mvu m c x with | some c' => pmp m x d c' | none => c) = _; rw [hv]
      rw [e1]
    | some c' =>
      have e1 : pmp m x (d + 1) c = pmp m x d c' := by show (match mvu m c x with | some c' => pmp m x d c' | none => c) = _; rw [hv]
      rw [e1, pmp_fx h d c', mvu_fx h hv]
theorem lk_fx {c : FA} {j : Nat} (h : fx j) : ∀ n, n ≤ 8 → lk c n j = c j
  | 0, _ => rfl
  | n + 1, hn => by
    have h' := h
    unfold fx at h'
    unfold lk
    rw [ad_ne (by omega), ad_ne (by omega), lk_fx h n (by omega)]
theorem shl_fx {c : FA} {st : Int32} {j : Nat} (h : fx j) : ∀ n, n ≤ 3 → shl c st n j = c j
  | 0, _ => rfl
  | n + 1, hn => by
    have h' := h
    unfold fx at h'
    unfold shl
    split
    · rw [ad_ne (by omega), pk_un (by omega), shl_fx h n (by omega)]
    · exact shl_fx h n (by omega)
theorem shf_fx {c : FA} {j : Nat} (h : fx j) : shf c j = c j := by
  unfold shf
  split
  · exact shl_fx h 3 (Nat.le_refl 3)
  · rfl
theorem mnt_fx {m x : Int32} {r : Nat} {c : FA} {j : Nat} (h : fx j) : mnt m x r c j = c j := by
  have h' := h
  unfold fx at h'
  unfold mnt
  rw [shf_fx h]
  unfold lkm
  split
  · rw [lk_fx h 8 (Nat.le_refl 8), pmp_fx h, ad_ne (by omega)]
  · rw [pmp_fx h, ad_ne (by omega)]
theorem mns_fx {m x : Int32} {r : Nat} {c : FA} {j : Nat} (h : fx j) : ∀ n, mns m x r c n j = c j
  | 0 => rfl
  | n + 1 => by
    show mnt m x r (mns m x r c n) j = c j
    rw [mnt_fx h, mns_fx h n]
theorem tkf_at (c : FA) : ∀ q j, q ≤ 11 → tkf c q j = if (131 ≤ j ∧ j < 131 + q) ∨ (143 ≤ j ∧ j < 143 + q) then c (j + 1) else c j
  | 0, j, _ => by rw [if_neg (by omega)]; rfl
  | q + 1, j, hq => by
    have ih := fun j => tkf_at c q j (by omega)
    show upd (upd (tkf c q) (131 + q) (tkf c q (131 + (q + 1)))) (143 + q) (tkf c q (143 + (q + 1))) j = _
    by_cases h1 : j = 143 + q
    · subst h1
      rw [pk_us, ih, if_neg (by omega), if_pos (by omega)]
      rfl
    · rw [pk_un h1]
      by_cases h2 : j = 131 + q
      · subst h2
        rw [pk_us, ih, if_neg (by omega), if_pos (by omega)]
        rfl
      · rw [pk_un h2, ih]
        by_cases h3 : (131 ≤ j ∧ j < 131 + q) ∨ (143 ≤ j ∧ j < 143 + q)
        · rw [if_pos h3, if_pos (by omega)]
        · rw [if_neg h3, if_neg (by omega)]
theorem tko_fx {c : FA} {N j : Nat} (hN : N ≤ 12) (h : j < 131 ∨ 155 < j) : tko c N j = c j := by
  unfold tko
  rw [pk_un (by omega), tkf_at c _ _ (by omega), if_neg (by omega)]
theorem rowok_tko {c : FA} {N : Nat} (h : RowOk c N) (h0 : 0 < N) : RowOk (tko c N) (N - 1) := by
  obtain ⟨h1, h2, h3⟩ := h
  refine ⟨?_, by omega, fun p hp => ?_⟩
  · unfold tko
    rw [pk_us]
    exact nI_sub (b := 1) h0
  · obtain ⟨k, b, e1, e2, e3⟩ := h3 (p + 1) (by omega)
    refine ⟨k, b, ?_, ?_, e3⟩
    · unfold tko
      rw [pk_un (by omega), tkf_at c _ _ (by omega), if_pos (by omega)]
      exact e1
    · unfold tko
      rw [pk_un (by omega), tkf_at c _ _ (by omega), if_pos (by omega)]
      exact e2
theorem RowOk.congr {c d : FA} {N : Nat} (h : RowOk c N) (hd : ∀ j, 131 ≤ j → j ≤ 155 → d j = c j) : RowOk d N := by
  obtain ⟨h1, h2, h3⟩ := h
  refine ⟨by rw [hd 155 (by decide) (by decide)]; exact h1, h2, fun p hp => ?_⟩
  obtain ⟨k, b, e1, e2, e3⟩ := h3 p hp
  exact ⟨k, b, by rw [hd _ (by omega) (by omega)]; exact e1, by rw [hd _ (by omega) (by omega)]; exact e2, e3⟩
/-- the first order is done, if there is one -/
def wf (c : FA) : FA := if ix (c 155) = 0 then c else wof c (ix (c 155)) (ix (c 131)) (ix (c 143)) (ix (c 128))
def wfs (c : FA) : Nat → FA
  | 0 => c
  | n + 1 => wf (wfs c n)
theorem wof_fx {c : FA} {N k b r : Nat} (hN : N ≤ 12) (hb : k < 2 → b < 5) {j : Nat} (h : j = 128 ∨ (131 ≤ j ∧ j ≤ 155)) : wof c N k b r j = tko c N j := by
  unfold wof
  split
  · split
    · next h2 => have := hb h2; exact pk_un (by omega)
    · exact mns_fx (by unfold fx; omega) b
  · exact ad_ne (by omega)
theorem wf_ok {c : FA} {N : Nat} (h : RowOk c N) (h0 : 0 < N) : RowOk (wf c) (N - 1) ∧ wf c 128 = c 128 := by
  obtain ⟨k, b, e1, e2, e3, e4, e5, e6⟩ := h.2.2 0 h0
  have hN := h.2.1
  have n1 : ix (c 155) = N := by rw [h.1]; exact ix_nI (by omega)
  have n2 : ix (c 131) = k := by rw [show c 131 = nI k from e1]; exact ix_nI (by omega)
  have n3 : ix (c 143) = b := by rw [show c 143 = nI b from e2]; exact ix_nI (by omega)
  unfold wf
  rw [n1, if_neg (by omega), n2, n3]
  refine ⟨(rowok_tko h h0).congr fun j h1 h2 => wof_fx hN e4 (Or.inr ⟨h1, h2⟩), ?_⟩
  rw [wof_fx hN e4 (Or.inl rfl)]
  exact tko_fx hN (Or.inl (by decide))
theorem wfs_ok {c : FA} {N : Nat} (h : RowOk c N) : ∀ n, RowOk (wfs c n) (N - n) ∧ wfs c n 128 = c 128
  | 0 => ⟨h, rfl⟩
  | n + 1 => by
    obtain ⟨h1, h2⟩ := wfs_ok h n
    by_cases h0 : 0 < N - n
    · obtain ⟨h3, h4⟩ := wf_ok h1 h0
      exact ⟨by rw [show N - (n + 1) = N - n - 1 by omega]; exact h3, h4.trans h2⟩
    · have n1 : ix (wfs c n 155) = 0 := by rw [h1.1, show N - n = 0 by omega]; exact ix_nI (by decide)
      have e1 : wfs c (n + 1) = wfs c n := by show wf (wfs c n) = _; unfold wf; rw [if_pos n1]
      rw [e1, show N - (n + 1) = N - n by omega]
      exact ⟨h1, h2⟩
def wrk (c : FA) (o : Int32) : Int32 × Option FA := if ¬ (1 ≤ o ∧ o ≤ 12) then (-1002, none) else if c 155 = 0 then (-1005, none) else (wfs c (ix o) 160 - c 160, some (wfs c (ix o)))
def tnJ (c : FA) (j : Nat) : Nat → Int32
  | 0 => c j
  | 1 => c (8 + j)
  | 2 => if bt (opn c 5) j then 1 else 0
  | 3 => grw c (nI j) 5
  | 4 => c (32 + j)
  | 5 => if 2 ≤ c (32 + j) ∧ c (88 + (j * 3 + 0)) = c (88 + (j * 3 + 1)) then los c j else -1005
  | 6 => c (16 + j)
  | _ => -1002
def tnk (c : FA) (t w : Int32) : Int32 := if ¬ (0 ≤ t ∧ t ≤ 7) then -1001 else if 0 ≤ w ∧ w ≤ 6 then tnJ c (ix t) (ix w) else -1002
def sng (c : FA) (t b z : Int32) : Int32 := if ¬ (0 ≤ t ∧ t ≤ 7) then -1001 else if b < 0 then -1002 else if c (32 + ix t) ≤ b then -1005 else if z = 0 then c (64 + (ix t * 3 + ix b)) else c (40 + (ix t * 3 + ix b))
def hld (c : FA) (h w : Int32) : Int32 := if ¬ (0 ≤ h ∧ h ≤ 2) then -1001 else if w = 0 then c (112 + ix h) else if w = 1 then c (115 + ix h) else -1002
def grJ (c : FA) (j : Nat) : Nat → Int32
  | 0 => c (118 + j)
  | 1 => c (123 + j)
  | 2 => wti c (c (118 + j))
  | _ => -1002
def grp (c : FA) (g w : Int32) : Int32 := if ¬ (0 ≤ g ∧ g ≤ 4) then -1001 else if 0 ≤ w ∧ w ≤ 2 then grJ c (ix g) (ix w) else -1002
def wai (c : FA) (p w : Int32) : Int32 := if p < 0 ∨ ¬ (0 ≤ w ∧ w ≤ 2) then -1002 else if c 155 ≤ p then -1005 else if w = 0 then c (131 + ix p) else if w = 1 then c (143 + ix p) else rsn c (ix (c (131 + ix p))) (ix (c (143 + ix p)))
def tri (c : FA) (p : Int32) : Int32 := if ¬ (-50 ≤ p ∧ p ≤ 50) then -1002 else tmo c p
def upr (c : FA) (u w : Int32) : Int32 := if ¬ (1 ≤ u ∧ u ≤ 100) ∨ ¬ (0 ≤ w ∧ w ≤ 2) then -1002 else if w = 0 then (upo c (ix u)).1 else if w = 1 then (upo c (ix u)).2.1 else (upo c (ix u)).2.2
def coJ (c : FA) (ln tl : Int32) : Nat → Int32
  | 0 => wgt c
  | 1 => tmo c 0 / 40
  | 2 => lst c
  | 3 => wgt c / 10
  | 4 => tmo c 0
  | 5 => lmo c
  | 6 => wti c 255
  | 7 => c 156
  | 8 => c 157
  | 9 => c 158
  | 10 => lostS c
  | 11 => c 159
  | 12 => c 155
  | 13 => c 160
  | 14 => opn c 5
  | 15 => c 161
  | 16 => c 128
  | 17 => c 129
  | 18 => c 130
  | 19 => ln
  | 20 => tl
  | _ => -1002
def cou (c : FA) (ln tl w : Int32) : Int32 := if 0 ≤ w ∧ w ≤ 20 then coJ c ln tl (ix w) else -1002
theorem outr {w M : Int32} (h : ¬ (0 ≤ w ∧ w ≤ M)) : w.toInt < 0 ∨ M.toInt < w.toInt := by
  rw [Int32.le_iff_toInt_le, Int32.le_iff_toInt_le, Int32.toInt_zero] at h
  omega
section MB
theorem t_X3_length (c : FA) (K : KS) (s : FA) (L : LS9) (e : AH) : Ct m_X3_length X0 [.ref 10] (HP c K s L e) (fun rv h => rv = some (.int K.2.2.2.2.2.2.1) ∧ h = HP c K s L e) := by
  refine ⟨ok_X3_length, ?_⟩
  refine Rch.go rfl ?_
  exact Rch.ri rfl rfl rfl (by decide) (by decide) ⟨rfl, rfl⟩
theorem t_X2_workFirst__w (c : FA) (K : KS) (s : FA) (L : LS9) (e : AH) {N r : Nat} (h : RowOk c N) (hr : c 128 = nI r) (hr2 : r < 2 ^ 31) : Ct m_X2_workFirst X0 [.ref 1] (HP c K s L e) (fun rv h => rv = none ∧ h = HP (wf c) K s L e) := by
  have hN := h.2.1
  have n1 : ix (c 155) = N := by rw [h.1]; exact ix_nI (by omega)
  by_cases h0 : 0 < N
  · obtain ⟨k, b, e1, e2, e3, e4, e5, e6⟩ := h.2.2 0 h0
    have n2 : ix (c 131) = k := by rw [show c 131 = nI k from e1]; exact ix_nI (by omega)
    have n3 : ix (c 143) = b := by rw [show c 143 = nI b from e2]; exact ix_nI (by omega)
    have n4 : ix (c 128) = r := by rw [hr]; exact ix_nI hr2
    have ew : wf c = wof c N k b r := by unfold wf; rw [n1, if_neg (by omega), n2, n3, n4]
    rw [ew]
    exact t_X2_workFirst c K s L e h.1 h0 hN e1 e2 e3 e4 (by omega) (by rw [tko_fx hN (Or.inl (by decide))]; exact hr) hr2
  · have ew : wf c = c := by unfold wf; rw [n1, if_pos (by omega)]
    rw [ew]
    refine ⟨ok_X2_workFirst, ?_⟩
    refine Rch.go rfl ?_
    refine Rch.call 0 (t_X6_at c K s L e (j := 155) rfl (by decide)) rfl rfl g_X2_11 om_X6_at rfl (fun _ _ _ q => q) rfl rfl rfl rfl ⟨rfl, rfl⟩ ⟨by decide, by decide⟩ (fun _ _ q => by obtain ⟨_, rfl⟩ := q; first | with_reducible rfl | (rw [HP_len, HP_len]; done) | rfl) (fun rv9 h9 q9 => ?_)
    obtain ⟨rfl, rfl⟩ := q9
    rw [h.1, show N = 0 by omega]
    refine Rch.z_ne rfl (fun _ => ?_) (fun q => absurd rfl q)
    refine Rch.go rfl ?_
    exact Rch.rv rfl rfl (by decide) (by decide) ⟨rfl, rfl⟩
theorem t_X8_work (c : FA) (r : Nat → FA) (K : KR) (s : FA) (L : LS9) {n q : Nat} (hn : n < 4) (hq : q ≤ 4) (o : Int32) {N R : Nat} (h : RowOk c N) (hR : c 128 = nI R) (hR2 : R < 2 ^ 31) : Ct m_X8_work X0 [.ref 0, .int o] (HP c (r, nI n, nI q, K) s L []) (fun rv h9 => rv = some (.int (wrk c o).1) ∧ h9 = hA c r n q K s L (wrk c o).2) := by
  have hN := h.2.1
  refine ⟨ok_X8_work, ?_⟩
  refine Rch.go rfl ?_
  refine Rch.call 1 (t_X8_isWithin _ _ _ _) rfl rfl g_X8_34 om_X8_isWithin rfl (fun _ _ _ q => q) rfl rfl rfl rfl ⟨rfl, rfl⟩ ⟨by decide, by decide⟩ (fun _ _ q => by obtain ⟨_, rfl⟩ := q; first | with_reducible rfl | (rw [HP_len, HP_len]; done) | rfl) (fun rv9 h9 q9 => ?_)
  obtain ⟨rfl, rfl⟩ := q9
  refine Rch.z_ne rfl (fun z => ?_) (fun z => ?_)
  · rw [show wrk c o = _ from if_pos (i0 z)]
    refine Rch.go rfl ?_
    exact Rch.ri rfl rfl rfl (by decide) (by decide) ⟨rfl, rfl⟩
  have w := i1 z
  obtain ⟨j, hj, rfl⟩ := rng (n := 12) rfl (by decide) ⟨Int32.le_trans (by decide) w.1, w.2⟩
  have ej : ix (nI j) = j := ix_nI (by omega)
  refine Rch.go rfl ?_
  refine Rch.call 0 (t_X6_at c _ s L _ (j := 155) rfl (by decide)) rfl rfl g_X8_38 om_X6_at rfl (fun _ _ _ q => q) rfl rfl rfl rfl ⟨rfl, rfl⟩ ⟨by decide, by decide⟩ (fun _ _ q => by obtain ⟨_, rfl⟩ := q; first | with_reducible rfl | (rw [HP_len, HP_len]; done) | rfl) (fun rv9 h9 q9 => ?_)
  obtain ⟨rfl, rfl⟩ := q9
  refine Rch.z_ne rfl (fun z1 => ?_) (fun z1 => ?_)
  · rw [show wrk c (nI j) = (-1005, none) by unfold wrk; rw [if_neg (fun q => q w), if_pos z1]]
    refine Rch.go rfl ?_
    exact Rch.ri rfl rfl rfl (by decide) (by decide) ⟨rfl, rfl⟩
  rw [show wrk c (nI j) = _ by unfold wrk; rw [if_neg (fun q => q w), if_neg z1, ej]]
  refine Rch.go rfl ?_
  refine Rch.call 0 (t_X0_record c r K s L _ hn hq) rfl rfl g_X8_49 om_X0_record rfl (fun _ _ _ q => q) rfl rfl rfl rfl ⟨rfl, rfl⟩ ⟨by decide, by decide⟩ (fun _ _ q => by obtain ⟨_, rfl⟩ := q; first | with_reducible rfl | (rw [HP_len, HP_len]; done) | rfl) (fun rv9 h9 q9 => ?_)
  obtain ⟨rfl, rfl⟩ := q9
  refine Rch.go rfl ?_
  refine Rch.call 0 (t_X6_at c _ s L _ (j := 160) rfl (by decide)) rfl rfl g_X8_38 om_X6_at rfl (fun _ _ _ q => q) rfl rfl rfl rfl ⟨rfl, rfl⟩ ⟨by decide, by decide⟩ (fun _ _ q => by obtain ⟨_, rfl⟩ := q; first | with_reducible rfl | (rw [HP_len, HP_len]; done) | rfl) (fun rv9 h9 q9 => ?_)
  obtain ⟨rfl, rfl⟩ := q9
  refine Rch.go rfl ?_
  refine Rch.for j (fun i => (57, [(0, .ref 0), (1, .int (nI j)), (2, .int (c 160)), (3, .int (nI i))], [.int (nI j), .int (nI i)], HP (wfs c i) (rc9 c (r, nI n, nI q, K) n q) s L [], 0, 0)) (fun i hi => ?_) ?_ 0 (by omega)
  · refine Rch.i_ge rfl (fun z => absurd z (lo_in hi (by omega))) (fun _ => ?_)
    obtain ⟨w1, w2⟩ := wfs_ok h i
    refine Rch.go rfl ?_
    refine Rch.call 1 (t_X2_workFirst__w _ _ s L _ w1 (w2.trans hR) hR2) rfl rfl g_X8_97 om_X2_workFirst rfl (fun _ _ _ q => q) rfl rfl rfl rfl ⟨rfl, rfl⟩ ⟨by decide, by decide⟩ (fun _ _ q => by obtain ⟨_, rfl⟩ := q; first | with_reducible rfl | (rw [HP_len, HP_len]; done) | rfl) (fun rv9 h9 q9 => ?_)
    obtain ⟨rfl, rfl⟩ := q9
    refine Rch.go rfl (Rch.rf ?_)
    rw [nI_1]
    rfl
  · refine Rch.i_ge rfl (fun _ => ?_) (fun z => absurd (lo_out (by omega)) z)
    refine Rch.go rfl ?_
    refine Rch.call 0 (t_X6_at _ _ s L _ (j := 160) rfl (by decide)) rfl rfl g_X8_38 om_X6_at rfl (fun _ _ _ q => q) rfl rfl rfl rfl ⟨rfl, rfl⟩ ⟨by decide, by decide⟩ (fun _ _ q => by obtain ⟨_, rfl⟩ := q; first | with_reducible rfl | (rw [HP_len, HP_len]; done) | rfl) (fun rv9 h9 q9 => ?_)
    obtain ⟨rfl, rfl⟩ := q9
    refine Rch.go rfl ?_
    exact Rch.ri rfl rfl rfl (by decide) (by decide) ⟨rfl, rfl⟩
theorem t_X8_undo (c : FA) (r : Nat → FA) (K : KR) (s : FA) (L : LS9) {n q : Nat} (hn : n < 4) (hq : q ≤ 4) : Ct m_X8_undo X0 [.ref 0] (HP c (r, nI n, nI q, K) s L []) (fun rv h => rv = some (.int (if q = 0 then -1005 else nI (q - 1))) ∧ h = HP (if q = 0 then c else cp (r ((n + 3) % 4)) c) (if q = 0 then (r, nI n, nI q, K) else (r, nI ((n + 3) % 4), nI (q - 1), K)) s L []) := by
  refine ⟨ok_X8_undo, ?_⟩
  refine Rch.go rfl ?_
  refine Rch.call 0 (t_X0_length c _ s L _) rfl rfl g_X8_123 om_X0_length rfl (fun _ _ _ q => q) rfl rfl rfl rfl ⟨rfl, rfl⟩ ⟨by decide, by decide⟩ (fun _ _ q => by obtain ⟨_, rfl⟩ := q; first | with_reducible rfl | (rw [HP_len, HP_len]; done) | rfl) (fun rv9 h9 q9 => ?_)
  obtain ⟨rfl, rfl⟩ := q9
  by_cases h0 : q = 0
  · subst h0
    refine Rch.z_ne rfl (fun _ => ?_) (fun q => absurd rfl q)
    refine Rch.go rfl ?_
    exact Rch.ri rfl rfl rfl (by decide) (by decide) ⟨rfl, rfl⟩
  · rw [if_neg h0, if_neg h0, if_neg h0]
    refine Rch.z_ne rfl (fun q9 => absurd q9 (nI_ne0 (by omega) (by omega))) (fun _ => ?_)
    refine Rch.go rfl ?_
    refine Rch.call 0 (t_X0_bringBack c r K s L _ hn (by omega) hq) rfl rfl g_X8_124 om_X0_bringBack rfl (fun _ _ _ q => q) rfl rfl rfl rfl ⟨rfl, rfl⟩ ⟨by decide, by decide⟩ (fun _ _ q => by obtain ⟨_, rfl⟩ := q; first | with_reducible rfl | (rw [HP_len, HP_len]; done) | rfl) (fun rv9 h9 q9 => ?_)
    obtain ⟨rfl, rfl⟩ := q9
    refine Rch.go rfl ?_
    refine Rch.call 0 (t_X0_length _ _ s L _) rfl rfl g_X8_123 om_X0_length rfl (fun _ _ _ q => q) rfl rfl rfl rfl ⟨rfl, rfl⟩ ⟨by decide, by decide⟩ (fun _ _ q => by obtain ⟨_, rfl⟩ := q; first | with_reducible rfl | (rw [HP_len, HP_len]; done) | rfl) (fun rv9 h9 q9 => ?_)
    obtain ⟨rfl, rfl⟩ := q9
    exact Rch.ri rfl rfl rfl (by decide) (by decide) ⟨rfl, rfl⟩
theorem t_X8_tank (c : FA) (K : KS) (s : FA) (L : LS9) (e : AH) (t w : Int32) : Ct m_X8_tank X0 [.ref 0, .int t, .int w] (HP c K s L e) (fun rv h => rv = some (.int (tnk c t w)) ∧ h = HP c K s L e) := by
  refine ⟨ok_X8_tank, ?_⟩
  refine Rch.go rfl ?_
  refine Rch.call 1 (t_X8_isWithin _ _ _ _) rfl rfl g_X8_34 om_X8_isWithin rfl (fun _ _ _ q => q) rfl rfl rfl rfl ⟨rfl, rfl⟩ ⟨by decide, by decide⟩ (fun _ _ q => by obtain ⟨_, rfl⟩ := q; first | with_reducible rfl | (rw [HP_len, HP_len]; done) | rfl) (fun rv9 h9 q9 => ?_)
  obtain ⟨rfl, rfl⟩ := q9
  refine Rch.z_ne rfl (fun z => ?_) (fun z => ?_)
  · rw [show tnk c t w = _ from if_pos (i0 z)]
    refine Rch.go rfl ?_
    exact Rch.ri rfl rfl rfl (by decide) (by decide) ⟨rfl, rfl⟩
  have h1 := i1 z
  obtain ⟨j, hj, rfl⟩ := rng (n := 7) rfl (by decide) h1
  have ej : ix (nI j) = j := ix_nI (by omega)
  refine Rch.go rfl ?_
  by_cases hw : 0 ≤ w ∧ w ≤ 6
  rotate_left
  · rw [show tnk c (nI j) w = -1002 by unfold tnk; rw [if_neg (fun q => q h1), if_neg hw]]
    refine Rch.sw (t := 158) rfl (if_pos (outr hw)) ?_
    refine Rch.go rfl ?_
    exact Rch.ri rfl rfl rfl (by decide) (by decide) ⟨rfl, rfl⟩
  obtain ⟨i, hi, rfl⟩ := rng (n := 6) rfl (by decide) hw
  rw [show tnk c (nI j) (nI i) = tnJ c j i by unfold tnk; rw [if_neg (fun q => q h1), if_pos hw, ej, ix_nI (by omega)]]
  match i, hi with
  | 0, _ =>
    refine Rch.sw (t := 56) rfl rfl ?_
    refine Rch.go rfl ?_
    refine Rch.call 0 (t_X6_at c _ s L _ (zadd j) (by omega)) rfl rfl g_X8_38 om_X6_at rfl (fun _ _ _ q => q) rfl rfl rfl rfl ⟨rfl, rfl⟩ ⟨by decide, by decide⟩ (fun _ _ q => by obtain ⟨_, rfl⟩ := q; first | with_reducible rfl | (rw [HP_len, HP_len]; done) | rfl) (fun rv9 h9 q9 => ?_)
    obtain ⟨rfl, rfl⟩ := q9
    exact Rch.ri rfl rfl rfl (by decide) (by decide) ⟨rfl, rfl⟩
  | 1, _ =>
    refine Rch.sw (t := 67) rfl rfl ?_
    refine Rch.go rfl ?_
    refine Rch.call 0 (t_X6_at c _ s L _ (nI_add 8 j) (by omega)) rfl rfl g_X8_38 om_X6_at rfl (fun _ _ _ q => q) rfl rfl rfl rfl ⟨rfl, rfl⟩ ⟨by decide, by decide⟩ (fun _ _ q => by obtain ⟨_, rfl⟩ := q; first | with_reducible rfl | (rw [HP_len, HP_len]; done) | rfl) (fun rv9 h9 q9 => ?_)
    obtain ⟨rfl, rfl⟩ := q9
    exact Rch.ri rfl rfl rfl (by decide) (by decide) ⟨rfl, rfl⟩
  | 2, _ =>
    refine Rch.sw (t := 79) rfl rfl ?_
    refine Rch.go rfl ?_
    refine Rch.call 0 (t_X6_openTanks c _ s L _) rfl rfl g_X8_138 om_X6_openTanks rfl (fun _ _ _ q => q) rfl rfl rfl rfl ⟨rfl, rfl⟩ ⟨by decide, by decide⟩ (fun _ _ q => by obtain ⟨_, rfl⟩ := q; first | with_reducible rfl | (rw [HP_len, HP_len]; done) | rfl) (fun rv9 h9 q9 => ?_)
    obtain ⟨rfl, rfl⟩ := q9
    refine Rch.go rfl ?_
    refine Rch.call 1 (t_X6_isIn _ _ _) rfl rfl g_X8_141 om_X6_isIn rfl (fun _ _ _ q => q) rfl rfl rfl rfl ⟨rfl, rfl⟩ ⟨by decide, by decide⟩ (fun _ _ q => by obtain ⟨_, rfl⟩ := q; first | with_reducible rfl | (rw [HP_len, HP_len]; done) | rfl) (fun rv9 h9 q9 => ?_)
    obtain ⟨rfl, rfl⟩ := q9
    refine Rch.z_eq rfl (fun z => ?_) (fun z => ?_)
    · refine Rch.go rfl ?_
      exact Rch.ri rfl rfl rfl (by decide) (by decide) ⟨by show _ = some (Value.int (if bt (opn c 5) j then 1 else 0)); rw [if_neg (i0 z)], rfl⟩
    · refine Rch.go rfl ?_
      exact Rch.ri rfl rfl rfl (by decide) (by decide) ⟨by show _ = some (Value.int (if bt (opn c 5) j then 1 else 0)); rw [if_pos (i1 z)], rfl⟩
  | 3, _ =>
    refine Rch.sw (t := 99) rfl rfl ?_
    refine Rch.go rfl ?_
    refine Rch.call 0 (t_X6_groupsWith c _ s L _ _) rfl rfl g_X8_144 om_X6_groupsWith rfl (fun _ _ _ q => q) rfl rfl rfl rfl ⟨rfl, rfl⟩ ⟨by decide, by decide⟩ (fun _ _ q => by obtain ⟨_, rfl⟩ := q; first | with_reducible rfl | (rw [HP_len, HP_len]; done) | rfl) (fun rv9 h9 q9 => ?_)
    obtain ⟨rfl, rfl⟩ := q9
    exact Rch.ri rfl rfl rfl (by decide) (by decide) ⟨rfl, rfl⟩
  | 4, _ =>
    refine Rch.sw (t := 108) rfl rfl ?_
    refine Rch.go rfl ?_
    refine Rch.call 0 (t_X6_at c _ s L _ (nI_add 32 j) (by omega)) rfl rfl g_X8_38 om_X6_at rfl (fun _ _ _ q => q) rfl rfl rfl rfl ⟨rfl, rfl⟩ ⟨by decide, by decide⟩ (fun _ _ q => by obtain ⟨_, rfl⟩ := q; first | with_reducible rfl | (rw [HP_len, HP_len]; done) | rfl) (fun rv9 h9 q9 => ?_)
    obtain ⟨rfl, rfl⟩ := q9
    exact Rch.ri rfl rfl rfl (by decide) (by decide) ⟨rfl, rfl⟩
  | 5, _ =>
    refine Rch.sw (t := 120) rfl rfl ?_
    refine Rch.go rfl ?_
    refine Rch.call 1 (t_X5_isLossTold c _ s L _ (by omega)) rfl rfl g_X8_147 om_X5_isLossTold rfl (fun _ _ _ q => q) rfl rfl rfl rfl ⟨rfl, rfl⟩ ⟨by decide, by decide⟩ (fun _ _ q => by obtain ⟨_, rfl⟩ := q; first | with_reducible rfl | (rw [HP_len, HP_len]; done) | rfl) (fun rv9 h9 q9 => ?_)
    obtain ⟨⟨rfl, hb⟩ | ⟨rfl, hb⟩, rfl⟩ := q9
    · refine Rch.z_eq rfl (fun q => absurd q (by decide)) (fun _ => ?_)
      refine Rch.go rfl ?_
      refine Rch.call 1 (t_X5_loss c _ s L _ (by omega)) rfl rfl g_X8_150 om_X5_loss rfl (fun _ _ _ q => q) rfl rfl rfl rfl ⟨rfl, rfl⟩ ⟨by decide, by decide⟩ (fun _ _ q => by obtain ⟨_, rfl⟩ := q; first | with_reducible rfl | (rw [HP_len, HP_len]; done) | rfl) (fun rv9 h9 q9 => ?_)
      obtain ⟨rfl, rfl⟩ := q9
      refine Rch.go rfl ?_
      exact Rch.ri rfl rfl rfl (by decide) (by decide) ⟨by show _ = some (Value.int (if 2 ≤ c (32 + j) ∧ c (88 + (j * 3 + 0)) = c (88 + (j * 3 + 1)) then los c j else -1005)); rw [if_pos (show 2 ≤ c (32 + j) ∧ c (88 + (j * 3 + 0)) = c (88 + (j * 3 + 1)) from hb)], rfl⟩
    · refine Rch.z_eq rfl (fun _ => ?_) (fun q => absurd rfl q)
      refine Rch.go rfl ?_
      exact Rch.ri rfl rfl rfl (by decide) (by decide) ⟨by show _ = some (Value.int (if 2 ≤ c (32 + j) ∧ c (88 + (j * 3 + 0)) = c (88 + (j * 3 + 1)) then los c j else -1005)); rw [if_neg (show ¬ (2 ≤ c (32 + j) ∧ c (88 + (j * 3 + 0)) = c (88 + (j * 3 + 1))) from hb)], rfl⟩
  | 6, _ =>
    refine Rch.sw (t := 146) rfl rfl ?_
    refine Rch.go rfl ?_
    refine Rch.call 0 (t_X6_at c _ s L _ (nI_add 16 j) (by omega)) rfl rfl g_X8_38 om_X6_at rfl (fun _ _ _ q => q) rfl rfl rfl rfl ⟨rfl, rfl⟩ ⟨by decide, by decide⟩ (fun _ _ q => by obtain ⟨_, rfl⟩ := q; first | with_reducible rfl | (rw [HP_len, HP_len]; done) | rfl) (fun rv9 h9 q9 => ?_)
    obtain ⟨rfl, rfl⟩ := q9
    exact Rch.ri rfl rfl rfl (by decide) (by decide) ⟨rfl, rfl⟩
theorem t_X8_sounding (c : FA) (K : KS) (s : FA) (L : LS9) (e : AH) (t b z : Int32) (hc : ∀ j, j < 8 → ∃ k, k ≤ 3 ∧ c (32 + j) = nI k) : Ct m_X8_sounding X0 [.ref 0, .int t, .int b, .int z] (HP c K s L e) (fun rv h => rv = some (.int (sng c t b z)) ∧ h = HP c K s L e) := by
  refine ⟨ok_X8_sounding, ?_⟩
  refine Rch.go rfl ?_
  refine Rch.call 1 (t_X8_isWithin _ _ _ _) rfl rfl g_X8_34 om_X8_isWithin rfl (fun _ _ _ q => q) rfl rfl rfl rfl ⟨rfl, rfl⟩ ⟨by decide, by decide⟩ (fun _ _ q => by obtain ⟨_, rfl⟩ := q; first | with_reducible rfl | (rw [HP_len, HP_len]; done) | rfl) (fun rv9 h9 q9 => ?_)
  obtain ⟨rfl, rfl⟩ := q9
  refine Rch.z_ne rfl (fun z1 => ?_) (fun z1 => ?_)
  · rw [show sng c t b z = _ from if_pos (i0 z1)]
    refine Rch.go rfl ?_
    exact Rch.ri rfl rfl rfl (by decide) (by decide) ⟨rfl, rfl⟩
  have h1 := i1 z1
  obtain ⟨j, hj, rfl⟩ := rng (n := 7) rfl (by decide) h1
  have ej : ix (nI j) = j := ix_nI (by omega)
  refine Rch.go rfl ?_
  refine Rch.z_ge rfl (fun z2 => ?_) (fun z2 => ?_)
  rotate_left
  · rw [show sng c (nI j) b z = -1002 by unfold sng; rw [if_neg (fun q => q h1), if_pos (nle_lt z2)]]
    refine Rch.go rfl ?_
    exact Rch.ri rfl rfl rfl (by decide) (by decide) ⟨rfl, rfl⟩
  have h2 := Int32.not_lt.mpr z2
  refine Rch.go rfl ?_
  refine Rch.call 0 (t_X6_at c _ s L _ (nI_add 32 j) (by omega)) rfl rfl g_X8_38 om_X6_at rfl (fun _ _ _ q => q) rfl rfl rfl rfl ⟨rfl, rfl⟩ ⟨by decide, by decide⟩ (fun _ _ q => by obtain ⟨_, rfl⟩ := q; first | with_reducible rfl | (rw [HP_len, HP_len]; done) | rfl) (fun rv9 h9 q9 => ?_)
  obtain ⟨rfl, rfl⟩ := q9
  refine Rch.i_lt rfl (fun z3 => ?_) (fun z3 => ?_)
  rotate_left
  · rw [show sng c (nI j) b z = -1005 by unfold sng; rw [if_neg (fun q => q h1), if_neg h2, ej, if_pos (nlt_le z3)]]
    refine Rch.go rfl ?_
    exact Rch.ri rfl rfl rfl (by decide) (by decide) ⟨rfl, rfl⟩
  obtain ⟨k, hk, ek⟩ := hc j (by omega)
  obtain ⟨b', hb', rfl⟩ : ∃ b', b' < 3 ∧ b = nI b' := by
    rw [ek] at z3
    obtain ⟨b', hb, rfl⟩ := nI_of h2
    exact ⟨b', by have := (nI_ltI hb (by omega)).mp z3; omega, rfl⟩
  have eb : ix (nI b') = b' := ix_nI (by omega)
  rw [show sng c (nI j) (nI b') z = if z = 0 then c (64 + (j * 3 + b')) else c (40 + (j * 3 + b')) by unfold sng; rw [if_neg (fun q => q h1), if_neg h2, ej, eb, if_neg (Int32.not_le.mpr z3)]]
  refine Rch.go rfl ?_
  refine Rch.z_eq rfl (fun z4 => ?_) (fun z4 => ?_)
  · rw [if_pos z4]
    refine Rch.go rfl ?_
    refine Rch.call 1 (t_X5_place j b' rfl rfl _) rfl rfl g_X8_153 om_X5_place rfl (fun _ _ _ q => q) rfl rfl rfl rfl ⟨rfl, rfl⟩ ⟨by decide, by decide⟩ (fun _ _ q => by obtain ⟨_, rfl⟩ := q; first | with_reducible rfl | (rw [HP_len, HP_len]; done) | rfl) (fun rv9 h9 q9 => ?_)
    obtain ⟨rfl, rfl⟩ := q9
    refine Rch.go rfl ?_
    refine Rch.call 0 (t_X6_at c _ s L _ (nI_add 64 (j * 3 + b')) (by omega)) rfl rfl g_X8_38 om_X6_at rfl (fun _ _ _ q => q) rfl rfl rfl rfl ⟨rfl, rfl⟩ ⟨by decide, by decide⟩ (fun _ _ q => by obtain ⟨_, rfl⟩ := q; first | with_reducible rfl | (rw [HP_len, HP_len]; done) | rfl) (fun rv9 h9 q9 => ?_)
    obtain ⟨rfl, rfl⟩ := q9
    exact Rch.ri rfl rfl rfl (by decide) (by decide) ⟨rfl, rfl⟩
  · rw [if_neg z4]
    refine Rch.go rfl ?_
    refine Rch.call 1 (t_X5_place j b' rfl rfl _) rfl rfl g_X8_153 om_X5_place rfl (fun _ _ _ q => q) rfl rfl rfl rfl ⟨rfl, rfl⟩ ⟨by decide, by decide⟩ (fun _ _ q => by obtain ⟨_, rfl⟩ := q; first | with_reducible rfl | (rw [HP_len, HP_len]; done) | rfl) (fun rv9 h9 q9 => ?_)
    obtain ⟨rfl, rfl⟩ := q9
    refine Rch.go rfl ?_
    refine Rch.call 0 (t_X6_at c _ s L _ (nI_add 40 (j * 3 + b')) (by omega)) rfl rfl g_X8_38 om_X6_at rfl (fun _ _ _ q => q) rfl rfl rfl rfl ⟨rfl, rfl⟩ ⟨by decide, by decide⟩ (fun _ _ q => by obtain ⟨_, rfl⟩ := q; first | with_reducible rfl | (rw [HP_len, HP_len]; done) | rfl) (fun rv9 h9 q9 => ?_)
    obtain ⟨rfl, rfl⟩ := q9
    exact Rch.ri rfl rfl rfl (by decide) (by decide) ⟨rfl, rfl⟩
theorem t_X8_hold (c : FA) (K : KS) (s : FA) (L : LS9) (e : AH) (t w : Int32) : Ct m_X8_hold X0 [.ref 0, .int t, .int w] (HP c K s L e) (fun rv h => rv = some (.int (hld c t w)) ∧ h = HP c K s L e) := by
  refine ⟨ok_X8_hold, ?_⟩
  refine Rch.go rfl ?_
  refine Rch.call 1 (t_X8_isWithin _ _ _ _) rfl rfl g_X8_34 om_X8_isWithin rfl (fun _ _ _ q => q) rfl rfl rfl rfl ⟨rfl, rfl⟩ ⟨by decide, by decide⟩ (fun _ _ q => by obtain ⟨_, rfl⟩ := q; first | with_reducible rfl | (rw [HP_len, HP_len]; done) | rfl) (fun rv9 h9 q9 => ?_)
  obtain ⟨rfl, rfl⟩ := q9
  refine Rch.z_ne rfl (fun z => ?_) (fun z => ?_)
  · rw [show hld c t w = _ from if_pos (i0 z)]
    refine Rch.go rfl ?_
    exact Rch.ri rfl rfl rfl (by decide) (by decide) ⟨rfl, rfl⟩
  have h1 := i1 z
  obtain ⟨j, hj, rfl⟩ := rng (n := 2) rfl (by decide) h1
  have ej : ix (nI j) = j := ix_nI (by omega)
  rw [show hld c (nI j) w = if w = 0 then c (112 + j) else if w = 1 then c (115 + j) else -1002 by unfold hld; rw [if_neg (fun q => q h1), ej]]
  refine Rch.go rfl ?_
  by_cases h0 : w = 0
  · subst h0
    refine Rch.sw (t := 40) rfl rfl ?_
    refine Rch.go rfl ?_
    refine Rch.call 0 (t_X6_at c _ s L _ (nI_add 112 j) (by omega)) rfl rfl g_X8_38 om_X6_at rfl (fun _ _ _ q => q) rfl rfl rfl rfl ⟨rfl, rfl⟩ ⟨by decide, by decide⟩ (fun _ _ q => by obtain ⟨_, rfl⟩ := q; first | with_reducible rfl | (rw [HP_len, HP_len]; done) | rfl) (fun rv9 h9 q9 => ?_)
    obtain ⟨rfl, rfl⟩ := q9
    exact Rch.ri rfl rfl rfl (by decide) (by decide) ⟨rfl, rfl⟩
  rw [if_neg h0]
  by_cases h2 : w = 1
  · subst h2
    refine Rch.sw (t := 52) rfl rfl ?_
    refine Rch.go rfl ?_
    refine Rch.call 0 (t_X6_at c _ s L _ (nI_add 115 j) (by omega)) rfl rfl g_X8_38 om_X6_at rfl (fun _ _ _ q => q) rfl rfl rfl rfl ⟨rfl, rfl⟩ ⟨by decide, by decide⟩ (fun _ _ q => by obtain ⟨_, rfl⟩ := q; first | with_reducible rfl | (rw [HP_len, HP_len]; done) | rfl) (fun rv9 h9 q9 => ?_)
    obtain ⟨rfl, rfl⟩ := q9
    exact Rch.ri rfl rfl rfl (by decide) (by decide) ⟨rfl, rfl⟩
  rw [if_neg h2]
  refine Rch.sw (t := 64) rfl ?_ ?_
  · show some ((14 : Int) + Op.lookupswitch.offset [(0, 26), (1, 38)] 50 w.toInt) = some 64
    rw [lv_osw (a := 0) h0 rfl, lv_osw (a := 1) h2 rfl]
    rfl
  refine Rch.go rfl ?_
  exact Rch.ri rfl rfl rfl (by decide) (by decide) ⟨rfl, rfl⟩
theorem t_X8_group (c : FA) (K : KS) (s : FA) (L : LS9) (e : AH) (t w : Int32) : Ct m_X8_group X0 [.ref 0, .int t, .int w] (HP c K s L e) (fun rv h => rv = some (.int (grp c t w)) ∧ h = HP c K s L e) := by
  refine ⟨ok_X8_group, ?_⟩
  refine Rch.go rfl ?_
  refine Rch.call 1 (t_X8_isWithin _ _ _ _) rfl rfl g_X8_34 om_X8_isWithin rfl (fun _ _ _ q => q) rfl rfl rfl rfl ⟨rfl, rfl⟩ ⟨by decide, by decide⟩ (fun _ _ q => by obtain ⟨_, rfl⟩ := q; first | with_reducible rfl | (rw [HP_len, HP_len]; done) | rfl) (fun rv9 h9 q9 => ?_)
  obtain ⟨rfl, rfl⟩ := q9
  refine Rch.z_ne rfl (fun z => ?_) (fun z => ?_)
  · rw [show grp c t w = _ from if_pos (i0 z)]
    refine Rch.go rfl ?_
    exact Rch.ri rfl rfl rfl (by decide) (by decide) ⟨rfl, rfl⟩
  have h1 := i1 z
  obtain ⟨j, hj, rfl⟩ := rng (n := 4) rfl (by decide) h1
  have ej : ix (nI j) = j := ix_nI (by omega)
  refine Rch.go rfl ?_
  by_cases hw : 0 ≤ w ∧ w ≤ 2
  rotate_left
  · rw [show grp c (nI j) w = -1002 by unfold grp; rw [if_neg (fun q => q h1), if_neg hw]]
    refine Rch.sw (t := 83) rfl (if_pos (outr hw)) ?_
    refine Rch.go rfl ?_
    exact Rch.ri rfl rfl rfl (by decide) (by decide) ⟨rfl, rfl⟩
  obtain ⟨i, hi, rfl⟩ := rng (n := 2) rfl (by decide) hw
  rw [show grp c (nI j) (nI i) = grJ c j i by unfold grp; rw [if_neg (fun q => q h1), if_pos hw, ej, ix_nI (by omega)]]
  match i, hi with
  | 0, _ =>
    refine Rch.sw (t := 40) rfl rfl ?_
    refine Rch.go rfl ?_
    refine Rch.call 0 (t_X6_at c _ s L _ (nI_add 118 j) (by omega)) rfl rfl g_X8_38 om_X6_at rfl (fun _ _ _ q => q) rfl rfl rfl rfl ⟨rfl, rfl⟩ ⟨by decide, by decide⟩ (fun _ _ q => by obtain ⟨_, rfl⟩ := q; first | with_reducible rfl | (rw [HP_len, HP_len]; done) | rfl) (fun rv9 h9 q9 => ?_)
    obtain ⟨rfl, rfl⟩ := q9
    exact Rch.ri rfl rfl rfl (by decide) (by decide) ⟨rfl, rfl⟩
  | 1, _ =>
    refine Rch.sw (t := 52) rfl rfl ?_
    refine Rch.go rfl ?_
    refine Rch.call 0 (t_X6_at c _ s L _ (nI_add 123 j) (by omega)) rfl rfl g_X8_38 om_X6_at rfl (fun _ _ _ q => q) rfl rfl rfl rfl ⟨rfl, rfl⟩ ⟨by decide, by decide⟩ (fun _ _ q => by obtain ⟨_, rfl⟩ := q; first | with_reducible rfl | (rw [HP_len, HP_len]; done) | rfl) (fun rv9 h9 q9 => ?_)
    obtain ⟨rfl, rfl⟩ := q9
    exact Rch.ri rfl rfl rfl (by decide) (by decide) ⟨rfl, rfl⟩
  | 2, _ =>
    refine Rch.sw (t := 64) rfl rfl ?_
    refine Rch.go rfl ?_
    refine Rch.call 0 (t_X6_at c _ s L _ (nI_add 118 j) (by omega)) rfl rfl g_X8_38 om_X6_at rfl (fun _ _ _ q => q) rfl rfl rfl rfl ⟨rfl, rfl⟩ ⟨by decide, by decide⟩ (fun _ _ q => by obtain ⟨_, rfl⟩ := q; first | with_reducible rfl | (rw [HP_len, HP_len]; done) | rfl) (fun rv9 h9 q9 => ?_)
    obtain ⟨rfl, rfl⟩ := q9
    refine Rch.call 0 (t_X6_waterIn c _ s L _ _) rfl rfl g_X8_156 om_X6_waterIn rfl (fun _ _ _ q => q) rfl rfl rfl rfl ⟨rfl, rfl⟩ ⟨by decide, by decide⟩ (fun _ _ q => by obtain ⟨_, rfl⟩ := q; first | with_reducible rfl | (rw [HP_len, HP_len]; done) | rfl) (fun rv9 h9 q9 => ?_)
    obtain ⟨rfl, rfl⟩ := q9
    exact Rch.ri rfl rfl rfl (by decide) (by decide) ⟨rfl, rfl⟩
theorem t_X8_waiting (c : FA) (K : KS) (s : FA) (L : LS9) (e : AH) (p w : Int32) {N : Nat} (h : RowOk c N) : Ct m_X8_waiting X0 [.ref 0, .int p, .int w] (HP c K s L e) (fun rv h => rv = some (.int (wai c p w)) ∧ h = HP c K s L e) := by
  have hN := h.2.1
  refine ⟨ok_X8_waiting, ?_⟩
  refine Rch.go rfl ?_
  refine Rch.z_lt rfl (fun z => ?_) (fun z => ?_)
  · rw [show wai c p w = _ from if_pos (Or.inl z)]
    refine Rch.go rfl ?_
    exact Rch.ri rfl rfl rfl (by decide) (by decide) ⟨rfl, rfl⟩
  refine Rch.go rfl ?_
  refine Rch.call 1 (t_X8_isWithin _ _ _ _) rfl rfl g_X8_34 om_X8_isWithin rfl (fun _ _ _ q => q) rfl rfl rfl rfl ⟨rfl, rfl⟩ ⟨by decide, by decide⟩ (fun _ _ q => by obtain ⟨_, rfl⟩ := q; first | with_reducible rfl | (rw [HP_len, HP_len]; done) | rfl) (fun rv9 h9 q9 => ?_)
  obtain ⟨rfl, rfl⟩ := q9
  refine Rch.z_ne rfl (fun z1 => ?_) (fun z1 => ?_)
  · rw [show wai c p w = _ from if_pos (Or.inr (i0 z1))]
    refine Rch.go rfl ?_
    exact Rch.ri rfl rfl rfl (by decide) (by decide) ⟨rfl, rfl⟩
  have h1 := i1 z1
  have h0 : ¬ (p < 0 ∨ ¬ (0 ≤ w ∧ w ≤ 2)) := fun q => q.elim z (fun q => q h1)
  refine Rch.go rfl ?_
  refine Rch.call 0 (t_X6_at c _ s L _ (j := 155) rfl (by decide)) rfl rfl g_X8_38 om_X6_at rfl (fun _ _ _ q => q) rfl rfl rfl rfl ⟨rfl, rfl⟩ ⟨by decide, by decide⟩ (fun _ _ q => by obtain ⟨_, rfl⟩ := q; first | with_reducible rfl | (rw [HP_len, HP_len]; done) | rfl) (fun rv9 h9 q9 => ?_)
  obtain ⟨rfl, rfl⟩ := q9
  refine Rch.i_lt rfl (fun z3 => ?_) (fun z3 => ?_)
  rotate_left
  · rw [show wai c p w = -1005 by unfold wai; rw [if_neg h0, if_pos (nlt_le z3)]]
    refine Rch.go rfl ?_
    exact Rch.ri rfl rfl rfl (by decide) (by decide) ⟨rfl, rfl⟩
  obtain ⟨j, hj, rfl⟩ : ∃ b', b' < N ∧ p = nI b' := by
    rw [h.1] at z3
    obtain ⟨b', hb, rfl⟩ := nI_of z
    exact ⟨b', (nI_ltI hb (by omega)).mp z3, rfl⟩
  have ej : ix (nI j) = j := ix_nI (by omega)
  obtain ⟨k, b, e1, e2, e3, e4, e5, e6⟩ := h.2.2 j hj
  rw [show wai c (nI j) w = if w = 0 then c (131 + j) else if w = 1 then c (143 + j) else rsn c k b by unfold wai; rw [if_neg h0, if_neg (Int32.not_le.mpr z3), ej, e1, e2, ix_nI (by omega), ix_nI (by omega)]]
  refine Rch.go rfl ?_
  refine Rch.call 0 (t_X6_at c _ s L _ (nI_add 131 j) (by omega)) rfl rfl g_X8_38 om_X6_at rfl (fun _ _ _ q => q) rfl rfl rfl rfl ⟨rfl, rfl⟩ ⟨by decide, by decide⟩ (fun _ _ q => by obtain ⟨_, rfl⟩ := q; first | with_reducible rfl | (rw [HP_len, HP_len]; done) | rfl) (fun rv9 h9 q9 => ?_)
  obtain ⟨rfl, rfl⟩ := q9
  refine Rch.go rfl ?_
  refine Rch.call 0 (t_X6_at c _ s L _ (nI_add 143 j) (by omega)) rfl rfl g_X8_38 om_X6_at rfl (fun _ _ _ q => q) rfl rfl rfl rfl ⟨rfl, rfl⟩ ⟨by decide, by decide⟩ (fun _ _ q => by obtain ⟨_, rfl⟩ := q; first | with_reducible rfl | (rw [HP_len, HP_len]; done) | rfl) (fun rv9 h9 q9 => ?_)
  obtain ⟨rfl, rfl⟩ := q9
  refine Rch.go rfl ?_
  by_cases q0 : w = 0
  · subst q0
    refine Rch.sw (t := 88) rfl rfl ?_
    refine Rch.go rfl ?_
    exact Rch.ri rfl rfl rfl (by decide) (by decide) ⟨rfl, rfl⟩
  rw [if_neg q0]
  by_cases q2 : w = 1
  · subst q2
    refine Rch.sw (t := 90) rfl rfl ?_
    refine Rch.go rfl ?_
    exact Rch.ri rfl rfl rfl (by decide) (by decide) ⟨rfl, rfl⟩
  rw [if_neg q2]
  refine Rch.sw (t := 93) rfl ?_ ?_
  · show some ((63 : Int) + Op.lookupswitch.offset [(0, 25), (1, 27)] 30 w.toInt) = some 93
    rw [lv_osw (a := 0) q0 rfl, lv_osw (a := 1) q2 rfl]
    rfl
  refine Rch.go rfl ?_
  refine Rch.call 1 (t_X2_reasonToRefuse c _ s L _ e1 e2 e3 e4) rfl rfl g_X8_159 om_X2_reasonToRefuse rfl (fun _ _ _ q => q) rfl rfl rfl rfl ⟨rfl, rfl⟩ ⟨by decide, by decide⟩ (fun _ _ q => by obtain ⟨_, rfl⟩ := q; first | with_reducible rfl | (rw [HP_len, HP_len]; done) | rfl) (fun rv9 h9 q9 => ?_)
  obtain ⟨rfl, rfl⟩ := q9
  exact Rch.ri rfl rfl rfl (by decide) (by decide) ⟨rfl, rfl⟩
theorem t_X8_trimMoment (c : FA) (K : KS) (s : FA) (L : LS9) (e : AH) (p : Int32) : Ct m_X8_trimMoment X0 [.ref 0, .int p] (HP c K s L e) (fun rv h => rv = some (.int (tri c p)) ∧ h = HP c K s L e) := by
  refine ⟨ok_X8_trimMoment, ?_⟩
  refine Rch.go rfl ?_
  refine Rch.call 1 (t_X8_isWithin _ _ _ _) rfl rfl g_X8_34 om_X8_isWithin rfl (fun _ _ _ q => q) rfl rfl rfl rfl ⟨rfl, rfl⟩ ⟨by decide, by decide⟩ (fun _ _ q => by obtain ⟨_, rfl⟩ := q; first | with_reducible rfl | (rw [HP_len, HP_len]; done) | rfl) (fun rv9 h9 q9 => ?_)
  obtain ⟨rfl, rfl⟩ := q9
  refine Rch.z_ne rfl (fun z => ?_) (fun z => ?_)
  · rw [show tri c p = _ from if_pos (i0 z)]
    refine Rch.go rfl ?_
    exact Rch.ri rfl rfl rfl (by decide) (by decide) ⟨rfl, rfl⟩
  have h1 := i1 z
  rw [show tri c p = _ from if_neg (fun q => q h1)]
  refine Rch.go rfl ?_
  refine Rch.call 0 (t_X6_trimMomentAbout c _ s L _ _) rfl rfl g_X8_163 om_X6_trimMomentAbout rfl (fun _ _ _ q => q) rfl rfl rfl rfl ⟨rfl, rfl⟩ ⟨by decide, by decide⟩ (fun _ _ q => by obtain ⟨_, rfl⟩ := q; first | with_reducible rfl | (rw [HP_len, HP_len]; done) | rfl) (fun rv9 h9 q9 => ?_)
  obtain ⟨rfl, rfl⟩ := q9
  exact Rch.ri rfl rfl rfl (by decide) (by decide) ⟨rfl, rfl⟩
theorem t_X8_upright__0 (A B : US) (c : FA) (K : KS) (s : FA) (L : LS9) {j : Nat} (w : Int32) (h1 : 1 ≤ j) (hj : j ≤ 100) (h2 : 0 ≤ w ∧ w ≤ 2) : Ct m_X8_upright X0 [.ref 0, .int (nI j), .int w] (HP c K s L ([])) (fun rv h => rv = some (.int (if w = 0 then (upo c j).1 else if w = 1 then (upo c j).2.1 else (upo c j).2.2)) ∧ h = HP c K s L (uO (upo c j))) := by
  refine ⟨ok_X8_upright, ?_⟩
  refine Rch.go rfl ?_
  refine Rch.call 1 (t_X8_isWithin _ _ _ _) rfl rfl g_X8_34 om_X8_isWithin rfl (fun _ _ _ q => q) rfl rfl rfl rfl ⟨rfl, rfl⟩ ⟨by decide, by decide⟩ (fun _ _ q => by obtain ⟨_, rfl⟩ := q; first | with_reducible rfl | (rw [HP_len, HP_len]; done) | rfl) (fun rv9 h9 q9 => ?_)
  obtain ⟨rfl, rfl⟩ := q9
  refine Rch.z_eq rfl (fun z => absurd ⟨(nI_leI (a := 1) (by decide) (by omega)).mpr h1, (nI_leI (b := 100) (by omega) (by decide)).mpr hj⟩ (i0 z)) (fun _ => ?_)
  refine Rch.go rfl ?_
  refine Rch.call 1 (t_X8_isWithin _ _ _ _) rfl rfl g_X8_34 om_X8_isWithin rfl (fun _ _ _ q => q) rfl rfl rfl rfl ⟨rfl, rfl⟩ ⟨by decide, by decide⟩ (fun _ _ q => by obtain ⟨_, rfl⟩ := q; first | with_reducible rfl | (rw [HP_len, HP_len]; done) | rfl) (fun rv9 h9 q9 => ?_)
  obtain ⟨rfl, rfl⟩ := q9
  refine Rch.z_ne rfl (fun z => absurd h2 (i0 z)) (fun _ => ?_)
  refine Rch.go rfl ?_
  refine Rch.new (N := 3) (o := 14) (cc' := 1) (cs' := 3) (C := RX7) (T := TX7) (fs := [.int 0, .int 0, .int 0]) rfl rfl rfl rfl rfl rfl rfl rfl rfl rfl (by decide) (by decide) rfl ?_
  refine Rch.go rfl ?_
  refine Rch.callG 3 (t_X7_init__0 A B c K s L hj) rfl rfl g_X8_168 om_X7_init rfl (fun _ _ _ q => q) rfl rfl rfl rfl (cc' := 1) (cs' := 3) rfl rfl (by decide) (by decide) rfl rfl (fun rv9 h9 q9 => ?_)
  obtain ⟨rfl, rfl⟩ := q9
  refine Rch.go rfl ?_
  by_cases q0 : w = 0
  · subst q0
    refine Rch.sw (t := 64) rfl rfl ?_
    refine Rch.go rfl ?_
    exact Rch.ri rfl rfl rfl (by decide) (by decide) (⟨rfl, rfl⟩)
  rw [if_neg q0]
  by_cases q2 : w = 1
  · subst q2
    refine Rch.sw (t := 69) rfl rfl ?_
    refine Rch.go rfl ?_
    exact Rch.ri rfl rfl rfl (by decide) (by decide) (⟨rfl, rfl⟩)
  rw [if_neg q2]
  refine Rch.sw (t := 74) rfl ?_ ?_
  · show some ((37 : Int) + Op.lookupswitch.offset [(0, 27), (1, 32)] 37 w.toInt) = some 74
    rw [lv_osw (a := 0) q0 rfl, lv_osw (a := 1) q2 rfl]
    rfl
  refine Rch.go rfl ?_
  exact Rch.ri rfl rfl rfl (by decide) (by decide) (⟨rfl, rfl⟩)
theorem t_X8_upright__1 (A B : US) (c : FA) (K : KS) (s : FA) (L : LS9) {j : Nat} (w : Int32) (h1 : 1 ≤ j) (hj : j ≤ 100) (h2 : 0 ≤ w ∧ w ≤ 2) : Ct m_X8_upright X0 [.ref 0, .int (nI j), .int w] (HP c K s L (uO A)) (fun rv h => rv = some (.int (if w = 0 then (upo c j).1 else if w = 1 then (upo c j).2.1 else (upo c j).2.2)) ∧ h = HP c K s L (uP A (upo c j))) := by
  refine ⟨ok_X8_upright, ?_⟩
  refine Rch.go rfl ?_
  refine Rch.call 1 (t_X8_isWithin _ _ _ _) rfl rfl g_X8_34 om_X8_isWithin rfl (fun _ _ _ q => q) rfl rfl rfl rfl ⟨rfl, rfl⟩ ⟨by decide, by decide⟩ (fun _ _ q => by obtain ⟨_, rfl⟩ := q; first | with_reducible rfl | (rw [HP_len, HP_len]; done) | rfl) (fun rv9 h9 q9 => ?_)
  obtain ⟨rfl, rfl⟩ := q9
  refine Rch.z_eq rfl (fun z => absurd ⟨(nI_leI (a := 1) (by decide) (by omega)).mpr h1, (nI_leI (b := 100) (by omega) (by decide)).mpr hj⟩ (i0 z)) (fun _ => ?_)
  refine Rch.go rfl ?_
  refine Rch.call 1 (t_X8_isWithin _ _ _ _) rfl rfl g_X8_34 om_X8_isWithin rfl (fun _ _ _ q => q) rfl rfl rfl rfl ⟨rfl, rfl⟩ ⟨by decide, by decide⟩ (fun _ _ q => by obtain ⟨_, rfl⟩ := q; first | with_reducible rfl | (rw [HP_len, HP_len]; done) | rfl) (fun rv9 h9 q9 => ?_)
  obtain ⟨rfl, rfl⟩ := q9
  refine Rch.z_ne rfl (fun z => absurd h2 (i0 z)) (fun _ => ?_)
  refine Rch.go rfl ?_
  refine Rch.new (N := 3) (o := 15) (cc' := 1) (cs' := 3) (C := RX7) (T := TX7) (fs := [.int 0, .int 0, .int 0]) rfl rfl rfl rfl rfl rfl rfl rfl rfl rfl (by decide) (by decide) rfl ?_
  refine Rch.go rfl ?_
  refine Rch.callG 3 (t_X7_init__1 A B c K s L hj) rfl rfl g_X8_168 om_X7_init rfl (fun _ _ _ q => q) rfl rfl rfl rfl (cc' := 1) (cs' := 3) rfl rfl (by decide) (by decide) rfl rfl (fun rv9 h9 q9 => ?_)
  obtain ⟨rfl, rfl⟩ := q9
  refine Rch.go rfl ?_
  by_cases q0 : w = 0
  · subst q0
    refine Rch.sw (t := 64) rfl rfl ?_
    refine Rch.go rfl ?_
    exact Rch.ri rfl rfl rfl (by decide) (by decide) (⟨rfl, rfl⟩)
  rw [if_neg q0]
  by_cases q2 : w = 1
  · subst q2
    refine Rch.sw (t := 69) rfl rfl ?_
    refine Rch.go rfl ?_
    exact Rch.ri rfl rfl rfl (by decide) (by decide) (⟨rfl, rfl⟩)
  rw [if_neg q2]
  refine Rch.sw (t := 74) rfl ?_ ?_
  · show some ((37 : Int) + Op.lookupswitch.offset [(0, 27), (1, 32)] 37 w.toInt) = some 74
    rw [lv_osw (a := 0) q0 rfl, lv_osw (a := 1) q2 rfl]
    rfl
  refine Rch.go rfl ?_
  exact Rch.ri rfl rfl rfl (by decide) (by decide) (⟨rfl, rfl⟩)
theorem t_X8_upright__2 (A B : US) (c : FA) (K : KS) (s : FA) (L : LS9) {j : Nat} (w : Int32) (h1 : 1 ≤ j) (hj : j ≤ 100) (h2 : 0 ≤ w ∧ w ≤ 2) : Ct m_X8_upright X0 [.ref 0, .int (nI j), .int w] (HP c K s L (uP A B)) (fun rv h => rv = some (.int (if w = 0 then (upo c j).1 else if w = 1 then (upo c j).2.1 else (upo c j).2.2)) ∧ h = HP c K s L (uQ A B (upo c j))) := by
  refine ⟨ok_X8_upright, ?_⟩
  refine Rch.go rfl ?_
  refine Rch.call 1 (t_X8_isWithin _ _ _ _) rfl rfl g_X8_34 om_X8_isWithin rfl (fun _ _ _ q => q) rfl rfl rfl rfl ⟨rfl, rfl⟩ ⟨by decide, by decide⟩ (fun _ _ q => by obtain ⟨_, rfl⟩ := q; first | with_reducible rfl | (rw [HP_len, HP_len]; done) | rfl) (fun rv9 h9 q9 => ?_)
  obtain ⟨rfl, rfl⟩ := q9
  refine Rch.z_eq rfl (fun z => absurd ⟨(nI_leI (a := 1) (by decide) (by omega)).mpr h1, (nI_leI (b := 100) (by omega) (by decide)).mpr hj⟩ (i0 z)) (fun _ => ?_)
  refine Rch.go rfl ?_
  refine Rch.call 1 (t_X8_isWithin _ _ _ _) rfl rfl g_X8_34 om_X8_isWithin rfl (fun _ _ _ q => q) rfl rfl rfl rfl ⟨rfl, rfl⟩ ⟨by decide, by decide⟩ (fun _ _ q => by obtain ⟨_, rfl⟩ := q; first | with_reducible rfl | (rw [HP_len, HP_len]; done) | rfl) (fun rv9 h9 q9 => ?_)
  obtain ⟨rfl, rfl⟩ := q9
  refine Rch.z_ne rfl (fun z => absurd h2 (i0 z)) (fun _ => ?_)
  refine Rch.go rfl ?_
  refine Rch.new (N := 3) (o := 16) (cc' := 1) (cs' := 3) (C := RX7) (T := TX7) (fs := [.int 0, .int 0, .int 0]) rfl rfl rfl rfl rfl rfl rfl rfl rfl rfl (by decide) (by decide) rfl ?_
  refine Rch.go rfl ?_
  refine Rch.callG 3 (t_X7_init__2 A B c K s L hj) rfl rfl g_X8_168 om_X7_init rfl (fun _ _ _ q => q) rfl rfl rfl rfl (cc' := 1) (cs' := 3) rfl rfl (by decide) (by decide) rfl rfl (fun rv9 h9 q9 => ?_)
  obtain ⟨rfl, rfl⟩ := q9
  refine Rch.go rfl ?_
  by_cases q0 : w = 0
  · subst q0
    refine Rch.sw (t := 64) rfl rfl ?_
    refine Rch.go rfl ?_
    exact Rch.ri rfl rfl rfl (by decide) (by decide) (⟨rfl, rfl⟩)
  rw [if_neg q0]
  by_cases q2 : w = 1
  · subst q2
    refine Rch.sw (t := 69) rfl rfl ?_
    refine Rch.go rfl ?_
    exact Rch.ri rfl rfl rfl (by decide) (by decide) (⟨rfl, rfl⟩)
  rw [if_neg q2]
  refine Rch.sw (t := 74) rfl ?_ ?_
  · show some ((37 : Int) + Op.lookupswitch.offset [(0, 27), (1, 32)] 37 w.toInt) = some 74
    rw [lv_osw (a := 0) q0 rfl, lv_osw (a := 1) q2 rfl]
    rfl
  refine Rch.go rfl ?_
  exact Rch.ri rfl rfl rfl (by decide) (by decide) (⟨rfl, rfl⟩)
theorem t_X8_count (c : FA) (K : KS) (s : FA) (L : LS9) (e : AH) (w : Int32) : Ct m_X8_count X0 [.ref 0, .int w] (HP c K s L e) (fun rv h => rv = some (.int (cou c K.2.2.1 K.2.2.2.2.2.2.1 w)) ∧ h = HP c K s L e) := by
  refine ⟨ok_X8_count, ?_⟩
  refine Rch.go rfl ?_
  by_cases hw : 0 ≤ w ∧ w ≤ 20
  rotate_left
  · rw [show cou c K.2.2.1 K.2.2.2.2.2.2.1 w = -1002 from if_neg hw]
    refine Rch.sw (t := 305) rfl (if_pos (outr hw)) ?_
    refine Rch.go rfl ?_
    exact Rch.ri rfl rfl rfl (by decide) (by decide) ⟨rfl, rfl⟩
  obtain ⟨i, hi, rfl⟩ := rng (n := 20) rfl (by decide) hw
  rw [show cou c K.2.2.1 K.2.2.2.2.2.2.1 (nI i) = coJ c K.2.2.1 K.2.2.2.2.2.2.1 i by unfold cou; rw [if_pos hw, ix_nI (by omega)]]
  match i, hi with
  | 0, _ =>
    refine Rch.sw (t := 100) rfl rfl ?_
    refine Rch.go rfl ?_
    refine Rch.call 0 (t_X6_weight c _ s L _) rfl rfl g_X8_42 om_X6_weight rfl (fun _ _ _ q => q) rfl rfl rfl rfl ⟨rfl, rfl⟩ ⟨by decide, by decide⟩ (fun _ _ q => by obtain ⟨_, rfl⟩ := q; first | with_reducible rfl | (rw [HP_len, HP_len]; done) | rfl) (fun rv9 h9 q9 => ?_)
    obtain ⟨rfl, rfl⟩ := q9
    exact Rch.ri rfl rfl rfl (by decide) (by decide) ⟨rfl, rfl⟩
  | 1, _ =>
    refine Rch.sw (t := 108) rfl rfl ?_
    refine Rch.go rfl ?_
    refine Rch.call 0 (t_X6_trim c _ s L _) rfl rfl g_X8_178 om_X6_trim rfl (fun _ _ _ q => q) rfl rfl rfl rfl ⟨rfl, rfl⟩ ⟨by decide, by decide⟩ (fun _ _ q => by obtain ⟨_, rfl⟩ := q; first | with_reducible rfl | (rw [HP_len, HP_len]; done) | rfl) (fun rv9 h9 q9 => ?_)
    obtain ⟨rfl, rfl⟩ := q9
    exact Rch.ri rfl rfl rfl (by decide) (by decide) ⟨rfl, rfl⟩
  | 2, _ =>
    refine Rch.sw (t := 116) rfl rfl ?_
    refine Rch.go rfl ?_
    refine Rch.call 0 (t_X6_list c _ s L _) rfl rfl g_X8_105 om_X6_list rfl (fun _ _ _ q => q) rfl rfl rfl rfl ⟨rfl, rfl⟩ ⟨by decide, by decide⟩ (fun _ _ q => by obtain ⟨_, rfl⟩ := q; first | with_reducible rfl | (rw [HP_len, HP_len]; done) | rfl) (fun rv9 h9 q9 => ?_)
    obtain ⟨rfl, rfl⟩ := q9
    exact Rch.ri rfl rfl rfl (by decide) (by decide) ⟨rfl, rfl⟩
  | 4, _ =>
    refine Rch.sw (t := 135) rfl rfl ?_
    refine Rch.go rfl ?_
    refine Rch.call 0 (t_X6_trimMomentAbout c _ s L _ _) rfl rfl g_X8_163 om_X6_trimMomentAbout rfl (fun _ _ _ q => q) rfl rfl rfl rfl ⟨rfl, rfl⟩ ⟨by decide, by decide⟩ (fun _ _ q => by obtain ⟨_, rfl⟩ := q; first | with_reducible rfl | (rw [HP_len, HP_len]; done) | rfl) (fun rv9 h9 q9 => ?_)
    obtain ⟨rfl, rfl⟩ := q9
    exact Rch.ri rfl rfl rfl (by decide) (by decide) ⟨rfl, rfl⟩
  | 5, _ =>
    refine Rch.sw (t := 144) rfl rfl ?_
    refine Rch.go rfl ?_
    refine Rch.call 0 (t_X6_listMoment c _ s L _) rfl rfl g_X8_181 om_X6_listMoment rfl (fun _ _ _ q => q) rfl rfl rfl rfl ⟨rfl, rfl⟩ ⟨by decide, by decide⟩ (fun _ _ q => by obtain ⟨_, rfl⟩ := q; first | with_reducible rfl | (rw [HP_len, HP_len]; done) | rfl) (fun rv9 h9 q9 => ?_)
    obtain ⟨rfl, rfl⟩ := q9
    exact Rch.ri rfl rfl rfl (by decide) (by decide) ⟨rfl, rfl⟩
  | 6, _ =>
    refine Rch.sw (t := 152) rfl rfl ?_
    refine Rch.go rfl ?_
    refine Rch.call 0 (t_X6_waterIn c _ s L _ _) rfl rfl g_X8_156 om_X6_waterIn rfl (fun _ _ _ q => q) rfl rfl rfl rfl ⟨rfl, rfl⟩ ⟨by decide, by decide⟩ (fun _ _ q => by obtain ⟨_, rfl⟩ := q; first | with_reducible rfl | (rw [HP_len, HP_len]; done) | rfl) (fun rv9 h9 q9 => ?_)
    obtain ⟨rfl, rfl⟩ := q9
    exact Rch.ri rfl rfl rfl (by decide) (by decide) ⟨rfl, rfl⟩
  | 7, _ =>
    refine Rch.sw (t := 163) rfl rfl ?_
    refine Rch.go rfl ?_
    refine Rch.call 0 (t_X6_at c _ s L _ (j := 156) rfl (by decide)) rfl rfl g_X8_38 om_X6_at rfl (fun _ _ _ q => q) rfl rfl rfl rfl ⟨rfl, rfl⟩ ⟨by decide, by decide⟩ (fun _ _ q => by obtain ⟨_, rfl⟩ := q; first | with_reducible rfl | (rw [HP_len, HP_len]; done) | rfl) (fun rv9 h9 q9 => ?_)
    obtain ⟨rfl, rfl⟩ := q9
    exact Rch.ri rfl rfl rfl (by decide) (by decide) ⟨rfl, rfl⟩
  | 8, _ =>
    refine Rch.sw (t := 174) rfl rfl ?_
    refine Rch.go rfl ?_
    refine Rch.call 0 (t_X6_at c _ s L _ (j := 157) rfl (by decide)) rfl rfl g_X8_38 om_X6_at rfl (fun _ _ _ q => q) rfl rfl rfl rfl ⟨rfl, rfl⟩ ⟨by decide, by decide⟩ (fun _ _ q => by obtain ⟨_, rfl⟩ := q; first | with_reducible rfl | (rw [HP_len, HP_len]; done) | rfl) (fun rv9 h9 q9 => ?_)
    obtain ⟨rfl, rfl⟩ := q9
    exact Rch.ri rfl rfl rfl (by decide) (by decide) ⟨rfl, rfl⟩
  | 9, _ =>
    refine Rch.sw (t := 185) rfl rfl ?_
    refine Rch.go rfl ?_
    refine Rch.call 0 (t_X6_at c _ s L _ (j := 158) rfl (by decide)) rfl rfl g_X8_38 om_X6_at rfl (fun _ _ _ q => q) rfl rfl rfl rfl ⟨rfl, rfl⟩ ⟨by decide, by decide⟩ (fun _ _ q => by obtain ⟨_, rfl⟩ := q; first | with_reducible rfl | (rw [HP_len, HP_len]; done) | rfl) (fun rv9 h9 q9 => ?_)
    obtain ⟨rfl, rfl⟩ := q9
    exact Rch.ri rfl rfl rfl (by decide) (by decide) ⟨rfl, rfl⟩
  | 10, _ =>
    refine Rch.sw (t := 196) rfl rfl ?_
    refine Rch.go rfl ?_
    refine Rch.call 0 (t_X6_lostByLeaks c _ s L _) rfl rfl g_X8_184 om_X6_lostByLeaks rfl (fun _ _ _ q => q) rfl rfl rfl rfl ⟨rfl, rfl⟩ ⟨by decide, by decide⟩ (fun _ _ q => by obtain ⟨_, rfl⟩ := q; first | with_reducible rfl | (rw [HP_len, HP_len]; done) | rfl) (fun rv9 h9 q9 => ?_)
    obtain ⟨rfl, rfl⟩ := q9
    exact Rch.ri rfl rfl rfl (by decide) (by decide) ⟨rfl, rfl⟩
  | 11, _ =>
    refine Rch.sw (t := 204) rfl rfl ?_
    refine Rch.go rfl ?_
    refine Rch.call 0 (t_X6_at c _ s L _ (j := 159) rfl (by decide)) rfl rfl g_X8_38 om_X6_at rfl (fun _ _ _ q => q) rfl rfl rfl rfl ⟨rfl, rfl⟩ ⟨by decide, by decide⟩ (fun _ _ q => by obtain ⟨_, rfl⟩ := q; first | with_reducible rfl | (rw [HP_len, HP_len]; done) | rfl) (fun rv9 h9 q9 => ?_)
    obtain ⟨rfl, rfl⟩ := q9
    exact Rch.ri rfl rfl rfl (by decide) (by decide) ⟨rfl, rfl⟩
  | 12, _ =>
    refine Rch.sw (t := 215) rfl rfl ?_
    refine Rch.go rfl ?_
    refine Rch.call 0 (t_X6_at c _ s L _ (j := 155) rfl (by decide)) rfl rfl g_X8_38 om_X6_at rfl (fun _ _ _ q => q) rfl rfl rfl rfl ⟨rfl, rfl⟩ ⟨by decide, by decide⟩ (fun _ _ q => by obtain ⟨_, rfl⟩ := q; first | with_reducible rfl | (rw [HP_len, HP_len]; done) | rfl) (fun rv9 h9 q9 => ?_)
    obtain ⟨rfl, rfl⟩ := q9
    exact Rch.ri rfl rfl rfl (by decide) (by decide) ⟨rfl, rfl⟩
  | 13, _ =>
    refine Rch.sw (t := 226) rfl rfl ?_
    refine Rch.go rfl ?_
    refine Rch.call 0 (t_X6_at c _ s L _ (j := 160) rfl (by decide)) rfl rfl g_X8_38 om_X6_at rfl (fun _ _ _ q => q) rfl rfl rfl rfl ⟨rfl, rfl⟩ ⟨by decide, by decide⟩ (fun _ _ q => by obtain ⟨_, rfl⟩ := q; first | with_reducible rfl | (rw [HP_len, HP_len]; done) | rfl) (fun rv9 h9 q9 => ?_)
    obtain ⟨rfl, rfl⟩ := q9
    exact Rch.ri rfl rfl rfl (by decide) (by decide) ⟨rfl, rfl⟩
  | 14, _ =>
    refine Rch.sw (t := 237) rfl rfl ?_
    refine Rch.go rfl ?_
    refine Rch.call 0 (t_X6_openTanks c _ s L _) rfl rfl g_X8_138 om_X6_openTanks rfl (fun _ _ _ q => q) rfl rfl rfl rfl ⟨rfl, rfl⟩ ⟨by decide, by decide⟩ (fun _ _ q => by obtain ⟨_, rfl⟩ := q; first | with_reducible rfl | (rw [HP_len, HP_len]; done) | rfl) (fun rv9 h9 q9 => ?_)
    obtain ⟨rfl, rfl⟩ := q9
    exact Rch.ri rfl rfl rfl (by decide) (by decide) ⟨rfl, rfl⟩
  | 15, _ =>
    refine Rch.sw (t := 245) rfl rfl ?_
    refine Rch.go rfl ?_
    refine Rch.call 0 (t_X6_at c _ s L _ (j := 161) rfl (by decide)) rfl rfl g_X8_38 om_X6_at rfl (fun _ _ _ q => q) rfl rfl rfl rfl ⟨rfl, rfl⟩ ⟨by decide, by decide⟩ (fun _ _ q => by obtain ⟨_, rfl⟩ := q; first | with_reducible rfl | (rw [HP_len, HP_len]; done) | rfl) (fun rv9 h9 q9 => ?_)
    obtain ⟨rfl, rfl⟩ := q9
    exact Rch.ri rfl rfl rfl (by decide) (by decide) ⟨rfl, rfl⟩
  | 16, _ =>
    refine Rch.sw (t := 256) rfl rfl ?_
    refine Rch.go rfl ?_
    refine Rch.call 0 (t_X6_at c _ s L _ (j := 128) rfl (by decide)) rfl rfl g_X8_38 om_X6_at rfl (fun _ _ _ q => q) rfl rfl rfl rfl ⟨rfl, rfl⟩ ⟨by decide, by decide⟩ (fun _ _ q => by obtain ⟨_, rfl⟩ := q; first | with_reducible rfl | (rw [HP_len, HP_len]; done) | rfl) (fun rv9 h9 q9 => ?_)
    obtain ⟨rfl, rfl⟩ := q9
    exact Rch.ri rfl rfl rfl (by decide) (by decide) ⟨rfl, rfl⟩
  | 17, _ =>
    refine Rch.sw (t := 267) rfl rfl ?_
    refine Rch.go rfl ?_
    refine Rch.call 0 (t_X6_at c _ s L _ (j := 129) rfl (by decide)) rfl rfl g_X8_38 om_X6_at rfl (fun _ _ _ q => q) rfl rfl rfl rfl ⟨rfl, rfl⟩ ⟨by decide, by decide⟩ (fun _ _ q => by obtain ⟨_, rfl⟩ := q; first | with_reducible rfl | (rw [HP_len, HP_len]; done) | rfl) (fun rv9 h9 q9 => ?_)
    obtain ⟨rfl, rfl⟩ := q9
    exact Rch.ri rfl rfl rfl (by decide) (by decide) ⟨rfl, rfl⟩
  | 18, _ =>
    refine Rch.sw (t := 278) rfl rfl ?_
    refine Rch.go rfl ?_
    refine Rch.call 0 (t_X6_at c _ s L _ (j := 130) rfl (by decide)) rfl rfl g_X8_38 om_X6_at rfl (fun _ _ _ q => q) rfl rfl rfl rfl ⟨rfl, rfl⟩ ⟨by decide, by decide⟩ (fun _ _ q => by obtain ⟨_, rfl⟩ := q; first | with_reducible rfl | (rw [HP_len, HP_len]; done) | rfl) (fun rv9 h9 q9 => ?_)
    obtain ⟨rfl, rfl⟩ := q9
    exact Rch.ri rfl rfl rfl (by decide) (by decide) ⟨rfl, rfl⟩
  | 19, _ =>
    refine Rch.sw (t := 289) rfl rfl ?_
    refine Rch.go rfl ?_
    refine Rch.call 0 (t_X0_length c _ s L _) rfl rfl g_X8_123 om_X0_length rfl (fun _ _ _ q => q) rfl rfl rfl rfl ⟨rfl, rfl⟩ ⟨by decide, by decide⟩ (fun _ _ q => by obtain ⟨_, rfl⟩ := q; first | with_reducible rfl | (rw [HP_len, HP_len]; done) | rfl) (fun rv9 h9 q9 => ?_)
    obtain ⟨rfl, rfl⟩ := q9
    exact Rch.ri rfl rfl rfl (by decide) (by decide) ⟨rfl, rfl⟩
  | 20, _ =>
    refine Rch.sw (t := 297) rfl rfl ?_
    refine Rch.go rfl ?_
    refine Rch.call 0 (t_X3_length c _ s L _) rfl rfl g_X8_117 om_X3_length rfl (fun _ _ _ q => q) rfl rfl rfl rfl ⟨rfl, rfl⟩ ⟨by decide, by decide⟩ (fun _ _ q => by obtain ⟨_, rfl⟩ := q; first | with_reducible rfl | (rw [HP_len, HP_len]; done) | rfl) (fun rv9 h9 q9 => ?_)
    obtain ⟨rfl, rfl⟩ := q9
    exact Rch.ri rfl rfl rfl (by decide) (by decide) ⟨rfl, rfl⟩
  | 3, _ =>
    refine Rch.sw (t := 124) rfl rfl ?_
    refine Rch.go rfl ?_
    refine Rch.call 0 (t_X6_weight c _ s L _) rfl rfl g_X8_42 om_X6_weight rfl (fun _ _ _ q => q) rfl rfl rfl rfl ⟨rfl, rfl⟩ ⟨by decide, by decide⟩ (fun _ _ q => by obtain ⟨_, rfl⟩ := q; first | with_reducible rfl | (rw [HP_len, HP_len]; done) | rfl) (fun rv9 h9 q9 => ?_)
    obtain ⟨rfl, rfl⟩ := q9
    refine Rch.call 1 (t_X6_draughtOf _ _) rfl rfl g_X8_46 om_X6_draughtOf rfl (fun _ _ _ q => q) rfl rfl rfl rfl ⟨rfl, rfl⟩ ⟨by decide, by decide⟩ (fun _ _ q => by obtain ⟨_, rfl⟩ := q; first | with_reducible rfl | (rw [HP_len, HP_len]; done) | rfl) (fun rv9 h9 q9 => ?_)
    obtain ⟨rfl, rfl⟩ := q9
    exact Rch.ri rfl rfl rfl (by decide) (by decide) ⟨rfl, rfl⟩
  | i + 21, hi => exact absurd hi (by omega)
end MB
end
section
/-! ===== how she begins ===== -/
abbrev gT : FA := fun j => [(3 : Int32), 12, 48, 192, 255].getD j 0
abbrev sT : FA := fun j => [(4 : Int32), 12, 120].getD j 0
def cpfz (src dst : FA) (so d0 n : Nat) : FA := fun i => if d0 ≤ i ∧ i < d0 + n then src (i - d0 + so) else dst i
theorem cpfz_0 (src dst : FA) (so d0 : Nat) : cpfz src dst so d0 0 = dst := by
  funext i
  unfold cpfz
  rw [if_neg (by omega)]
theorem cpfz_s (src dst : FA) (so d0 n : Nat) : upd (cpfz src dst so d0 n) (d0 + n) (src (so + n)) = cpfz src dst so d0 (n + 1) := by
  funext i
  by_cases e : i = d0 + n
  · subst e
    rw [pk_us]
    unfold cpfz
    rw [if_pos (by omega), show d0 + n - d0 + so = so + n by omega]
  · rw [pk_un e]
    unfold cpfz
    by_cases g : d0 ≤ i ∧ i < d0 + n
    · rw [if_pos g, if_pos (by omega)]
    · rw [if_neg g, if_neg (by omega)]
def iW (n : Nat) : FA := cpfz (fun _ => 20) (fun _ => 0) 0 0 n
def iG (d n : Nat) : FA := cpfz gT (iW 8) 0 d n
def iS (n : Nat) : FA := cpfz sT (iG 118 5) 0 128 n
section BG
theorem t_X6_init : Ct m_X6_init X0 [.ref 1] [.inr (.inr (4, [.null, .null, .null, .int 0, .null])), .inr (.inr (2, [.null]))] (fun rv h => rv = none ∧ h = [.inr (.inr (4, [.null, .null, .null, .int 0, .null])), .inr (.inr (2, [.ref 2])), .inl (.int, 162, iS 3)]) := by
  refine ⟨ok_X6_init, ?_⟩
  refine Rch.go rfl ?_
  refine Rch.oi rfl (by decide +kernel) rfl rfl rfl ?_
  refine Rch.go rfl ?_
  refine Rch.newa (N := 162) (o := 2) (cc' := 1) (cs' := 162) (ty := .int) rfl rfl rfl (by decide +kernel) rfl (by decide) (by decide) rfl rfl rfl rfl rfl rfl rfl (by decide) (by decide) ?_
  refine Rch.go rfl ?_
  refine Rch.eq (τ := (18, [(0, .ref 1), (1, .int (nI 0))], [.int 8, .int (nI 0)], [.inr (.inr (4, [.null, .null, .null, .int 0, .null])), .inr (.inr (2, [.ref 2])), .inl (.int, 162, iW 0)], 1, 162)) (by unfold iW; rw [cpfz_0]; rfl) ?_
  refine Rch.for 8 (fun n => (18, [(0, .ref 1), (1, .int (nI n))], [.int 8, .int (nI n)], [.inr (.inr (4, [.null, .null, .null, .int 0, .null])), .inr (.inr (2, [.ref 2])), .inl (.int, 162, iW n)], 1, 162)) (fun n hn => ?_) ?_ 0 (by omega)
  · refine Rch.i_ge rfl (fun z => absurd z (lo_in hn (by decide))) (fun _ => ?_)
    refine Rch.go rfl ?_
    refine Rch.ias rfl rfl (nI_add 0 n) (by omega) (by decide) ?_
    refine Rch.go rfl (Rch.rf ?_)
    rw [nI_1, show iW (n + 1) = _ from (cpfz_s _ _ _ _ _).symm]
    rfl
  refine Rch.i_ge rfl (fun _ => ?_) (fun z => absurd (lo_out (by decide)) z)
  refine Rch.go rfl ?_
  refine Rch.eq (τ := (41, [(0, .ref 1), (1, .int (nI 0))], [.int 5, .int (nI 0)], [.inr (.inr (4, [.null, .null, .null, .int 0, .null])), .inr (.inr (2, [.ref 2])), .inl (.int, 162, iG 118 0)], 1, 162)) (by unfold iG; rw [cpfz_0]; rfl) ?_
  refine Rch.for 5 (fun n => (41, [(0, .ref 1), (1, .int (nI n))], [.int 5, .int (nI n)], [.inr (.inr (4, [.null, .null, .null, .int 0, .null])), .inr (.inr (2, [.ref 2])), .inl (.int, 162, iG 118 n)], 1, 162)) (fun n hn => ?_) ?_ 0 (by omega)
  · refine Rch.i_ge rfl (fun z => absurd z (lo_in hn (by decide))) (fun _ => ?_)
    refine Rch.go rfl ?_
    refine Rch.xa rfl rfl rfl rfl (by omega) (by decide) ?_
    refine Rch.ias rfl rfl (nI_add 118 n) (by omega) (by decide) ?_
    refine Rch.go rfl (Rch.rf ?_)
    rw [nI_1, show iG 118 (n + 1) = _ from (cpfz_s _ _ _ _ _).symm, Nat.zero_add]
    rfl
  refine Rch.i_ge rfl (fun _ => ?_) (fun z => absurd (lo_out (by decide)) z)
  refine Rch.go rfl ?_
  refine Rch.eq (τ := (68, [(0, .ref 1), (1, .int (nI 0))], [.int 3, .int (nI 0)], [.inr (.inr (4, [.null, .null, .null, .int 0, .null])), .inr (.inr (2, [.ref 2])), .inl (.int, 162, iS 0)], 1, 162)) (by unfold iS; rw [cpfz_0]; rfl) ?_
  refine Rch.for 3 (fun n => (68, [(0, .ref 1), (1, .int (nI n))], [.int 3, .int (nI n)], [.inr (.inr (4, [.null, .null, .null, .int 0, .null])), .inr (.inr (2, [.ref 2])), .inl (.int, 162, iS n)], 1, 162)) (fun n hn => ?_) ?_ 0 (by omega)
  · refine Rch.i_ge rfl (fun z => absurd z (lo_in hn (by decide))) (fun _ => ?_)
    refine Rch.go rfl ?_
    refine Rch.xa rfl rfl rfl rfl (by omega) (by decide) ?_
    refine Rch.ias rfl rfl (nI_add 128 n) (by omega) (by decide) ?_
    refine Rch.go rfl (Rch.rf ?_)
    rw [nI_1, show iS (n + 1) = _ from (cpfz_s _ _ _ _ _).symm, Nat.zero_add]
    rfl
  refine Rch.i_ge rfl (fun _ => ?_) (fun z => absurd (lo_out (by decide)) z)
  exact Rch.rv rfl rfl (by decide) (by decide) ⟨rfl, rfl⟩
end BG
end
section
/-! ===== how she begins: the text ===== -/
def z9 : FA := fun _ => 0
/-- the barge's objects, before the text is made; f: the barge's fields -/
abbrev hB (f : List Value) : AH := [.inr (.inr (4, f)), .inr (.inr (2, [.ref 2])), .inl (.int, 162, iS 3), .inr (.inr (0, [.ref 4, .int 0, .int 0])), .inr (.inl (4, fun i => 5 + i)), .inl (.int, 162, z9), .inl (.int, 162, z9), .inl (.int, 162, z9), .inl (.int, 162, z9), .inl (.int, 162, z9)]
abbrev hB2 : AH := [.inr (.inr (4, [.ref 1, .ref 3, .ref 9, .int 0, .ref 10])), .inr (.inr (2, [.ref 2])), .inl (.int, 162, iS 3), .inr (.inr (0, [.ref 4, .int 0, .int 0])), .inr (.inl (4, fun i => 5 + i)), .inl (.int, 162, z9), .inl (.int, 162, z9), .inl (.int, 162, z9), .inl (.int, 162, z9), .inl (.int, 162, z9), .inr (.inr (1, [.ref 11, .int 0, .ref 12, .ref 13, .int 0, .int 0])), .inl (.char, 60, z9), .inl (.int, 60, z9), .inl (.int, 60, z9)]
def K0 : KS := (fun _ => z9, 0, 0, z9, 0, z9, 0, z9, z9, 0, 0)
def L0 : LS9 := (z9, 0, z9, 0, z9, 0, 0, 0, 0, 0)
section BH
theorem t_X3_init : Ct m_X3_init X0 [.ref 10] (hB [.ref 1, .ref 3, .ref 9, .int 0, .null] ++ [.inr (.inr (1, [.null, .int 0, .null, .null, .int 0, .int 0]))]) (fun rv h => rv = none ∧ h = hB [.ref 1, .ref 3, .ref 9, .int 0, .null] ++ [.inr (.inr (1, [.ref 11, .int 0, .ref 12, .ref 13, .int 0, .int 0])), .inl (.char, 60, z9), .inl (.int, 60, z9), .inl (.int, 60, z9)]) := by
  refine ⟨ok_X3_init, ?_⟩
  refine Rch.go rfl ?_
  refine Rch.oi rfl (by decide +kernel) rfl rfl rfl ?_
  refine Rch.go rfl ?_
  refine Rch.newa (N := 60) (o := 11) (cc' := 1) (cs' := 60) (ty := .char) rfl rfl rfl (by decide +kernel) rfl (by decide) (by decide) rfl rfl rfl rfl rfl rfl rfl (by decide) (by decide) ?_
  refine Rch.go rfl ?_
  refine Rch.newa (N := 60) (o := 12) (cc' := 2) (cs' := 120) (ty := .int) rfl rfl rfl (by decide +kernel) rfl (by decide) (by decide) rfl rfl rfl rfl rfl rfl rfl (by decide) (by decide) ?_
  refine Rch.go rfl ?_
  refine Rch.newa (N := 60) (o := 13) (cc' := 3) (cs' := 180) (ty := .int) rfl rfl rfl (by decide +kernel) rfl (by decide) (by decide) rfl rfl rfl rfl rfl rfl rfl (by decide) (by decide) ?_
  refine Rch.go rfl ?_
  exact Rch.rv rfl rfl (by decide) (by decide) ⟨rfl, rfl⟩
end BH
end
section
/-! ===== a new array of arrays ===== -/
theorem out9 (c : ClassId) (N h0 : Nat) : ∀ i : Nat, Jvm.Free.Multi.outerC c N h0 i = arrV c N (fun j => va_rf (if j < i then some (h0 + 1 + j) else none))
  | 0 => by
    show ({ cls := c, slots := Array.replicate N .null, vm := .none } : Cell) = _
    rw [arrV_new]
    exact congrArg (arrV c N) (funext fun j => by simp [va_rf])
  | i + 1 => by
    show (Jvm.Free.Multi.outerC c N h0 i).setSlot i (.ref (h0 + 1 + i)) = _
    rw [out9 c N h0 i, arrV_store]
    refine congrArg (arrV c N) (funext fun j => ?_)
    by_cases e : j = i
    · subst e
      simp [updV, va_rf]
    · by_cases h : j < i
      · simp [updV, e, h, Nat.lt_succ_of_lt h]
      · simp [updV, e, h, show ¬ j < i + 1 by omega]
theorem inn9 (c : ClassId) (M : Nat) : Jvm.Free.Multi.innerC c M (defaultValue .int) = arrV c M (fun _ => .int 0) := by
  show ({ cls := c, slots := Array.replicate M (.int 0), vm := .none } : Cell) = _
  rw [arrV_new]
/-- the five new places -/
def w5 (q : Nat) (cA cy : ClassId) : va_W := [(q, .inl (cA, 4, .inr (.inr (.inr (.inr (fun i => if i < 4 then some (q + 1 + i) else none)))))), (q + 1 + 0, .inl (cy, 162, .inl fun _ => 0)), (q + 1 + 1, .inl (cy, 162, .inl fun _ => 0)), (q + 1 + 2, .inl (cy, 162, .inl fun _ => 0)), (q + 1 + 3, .inl (cy, 162, .inl fun _ => 0))]
def a5 (o : Nat) : AH := [.inr (.inl (4, fun i => o + 1 + i)), .inl (.int, 162, fun _ => 0), .inl (.int, 162, fun _ => 0), .inl (.int, 162, fun _ => 0), .inl (.int, 162, fun _ => 0)]
theorem w5_at {q : Nat} {cA cy : ClassId} {k : Nat} {x : Nat × va_E} (h : (w5 q cA cy)[k]? = some x) : k < 5 ∧ x.1 = q + k := by
  match k, h with
  | 0, h => cases h; exact ⟨by decide, rfl⟩
  | 1, h => cases h; exact ⟨by decide, rfl⟩
  | 2, h => cases h; exact ⟨by decide, rfl⟩
  | 3, h => cases h; exact ⟨by decide, rfl⟩
  | 4, h => cases h; exact ⟨by decide, rfl⟩
  | k + 5, h => simp [w5] at h
theorem Rch.mna {M : MI} {X : AX} {Ψ : AS → Prop} {pc idx nx a b o cc' cs' : Nat} {v : Int32} {ls : AL} {st : List Value} {h : AH} {cc cs : Nat} (hm : mk M pc = (.multianewarray idx 2, 4, nx, v, a, b)) (hw : okw (.classLink (mo M) idx ("[" ++ (FieldType.array FieldType.int).toString)) = true) (hw2 : okw (.arrayClass .int) = true) (ho : h.length = o) (hcl : clH h = true) (hlt : Nat.ble (h.length + 5) 1000 = true) (hcl2 : st.all (clV h.length) = true) (hcl3 : ls.all (fun q => clV h.length q.2) = true) (hc' : cc' = cc + 5) (hs' : cs' = cs + 652) (hcc : cc' ≤ mC M) (hcs : cs' ≤ mS M)
    (k : Rch M X (nx, ls, .ref o :: st, h ++ a5 o, cc', cs') Ψ) : Rch M X (pc, ls, .int 162 :: .int 4 :: st, h, cc, cs) Ψ := by
  subst ho
  subst hc'
  subst hs'
  intro ok p l e R s m args below meth c D xa A am0 n0 Q cx f am H locs ws lsC hn0 ham hH hS hl hg
  dsimp only at hn0 ham hH hl hg ⊢
  obtain ⟨d, hnx⟩ := ok.at hm (nop_ne (by intro e; cases e))
  simp only [okI, Bool.and_eq_true, decide_eq_true_eq] at hnx
  replace hnx := hnx.1
  have g := k ok p l e R s m args below meth c D xa A am0 n0 Q cx f
  obtain ⟨hx, hb, hml, hts, hnw, hov, hown, hini, hA, hK, hZ, hT0, f1, f2, f3, f4, -⟩ := cx
  have hlt2 := Nat.le_of_ble_eq_true hlt
  have n4 : (4 : Int32).toNatClampNeg = 4 := by decide
  have n162 : (162 : Int32).toNatClampNeg = 162 := by decide
  have hov2 : (Cond.arrayOver (.array .int)).before args s = true := by
    unfold Cond.before Cond.holds at hov ⊢
    simpa only [Cond.value] using hov
  intro T hT Xs
  obtain ⟨vm₁, cA, cy, -, fA, fC, hO, hI, X', step⟩ := Xs.multianewarray2F hx hown (ty := .int) (hts _ (okw_in hw)) hov2 (hts _ (okw_in hw2)) (g := F0 m pc lsC ((.int 162 :: .int 4 :: st).map (cv am xa))) rfl (by rw [hb]; exact d) (n := 4) (k := 162) (rest := st.map (cv am xa)) rfl (by decide) (by decide) (by decide) (by decide) (by decide) rfl rfl (by rw [n4]; omega) (by rw [n4, n162]; omega)
  rw [n4, n162] at X' step
  generalize hF : Jvm.Free.Multi.fill (T.setVm vm₁) cA cy 4 162 (defaultValue .int) 4 = F at X' step
  have hTh : (T.setVm vm₁).heap = H := hT
  obtain ⟨h1, h2, -, -⟩ := Jvm.Free.Multi.fill_facts (T.setVm vm₁) cA cy 4 162 (defaultValue .int) 4
  rw [hF, hTh] at h1 h2
  have hold : ∀ x : Nat, x < H.size → F.heap[x]? = H[x]? := fun x hx => by
    have := Jvm.Free.Multi.fill_old (T.setVm vm₁) cA cy 4 162 (defaultValue .int) (a := x) (by rw [hTh]; exact hx) 4
    rw [hF, hTh] at this
    exact this
  have hrow : ∀ j : Nat, j < 4 → F.heap[H.size + 1 + j]? = some (vp_cell cy (162, .inl fun _ => 0)) := fun j hj => by
    have := Jvm.Free.Multi.fill_inner (T.setVm vm₁) cA cy 4 162 (defaultValue .int) 4 j hj
    rw [hF, hTh] at this
    rw [this, vp_cell_i]
    exact congrArg some (inn9 cy 162)
  have hout : Jvm.Free.Multi.outerC cA 4 H.size 4 = vp_cell cA (4, .inr (.inr (.inr (.inr (fun i => if i < 4 then some (H.size + 1 + i) else none))))) := by
    rw [vp_cell_q]
    exact out9 cA 4 H.size 4
  rw [hout] at h2
  have hP := hH.1
  have hD := hH.2.1
  have hP0 : va_P D vwCl ws F.heap := hP.kept (fun k9 x hx => hold x.1 ((hP k9 x hx).lt))
  have hP1 : va_P D vwCl (ws ++ w5 H.size cA cy) F.heap := hP0.app (fun k9 x hx => by
    match k9, hx with
    | 0, hx => cases hx; exact h2
    | 1, hx => cases hx; exact hrow 0 (by decide)
    | 2, hx => cases hx; exact hrow 1 (by decide)
    | 3, hx => cases hx; exact hrow 2 (by decide)
    | 4, hx => cases hx; exact hrow 3 (by decide)
    | k9 + 5, hx => simp [w5] at hx)
  have hle : ∀ (k9 : Nat) (x : Nat × va_E), ws[k9]? = some x → x.1 < H.size := fun k9 x hx => (hP k9 x hx).lt
  have hD1 : va_D A (ws ++ w5 H.size cA cy) := by
    refine ⟨fun i j x y hi hj hxy => ?_, fun k9 x hx => ?_⟩
    · by_cases q1 : i < ws.length <;> by_cases q2 : j < ws.length
      · rw [List.getElem?_append_left q1] at hi
        rw [List.getElem?_append_left q2] at hj
        exact hD.1 i j x y hi hj hxy
      · rw [List.getElem?_append_left q1] at hi
        rw [List.getElem?_append_right (by omega)] at hj
        have := hle _ _ hi
        have := w5_at hj
        omega
      · rw [List.getElem?_append_right (by omega)] at hi
        rw [List.getElem?_append_left q2] at hj
        have := hle _ _ hj
        have := w5_at hi
        omega
      · rw [List.getElem?_append_right (by omega)] at hi hj
        have := w5_at hi
        have := w5_at hj
        omega
    · by_cases q1 : k9 < ws.length
      · rw [List.getElem?_append_left q1] at hx
        exact hD.2 k9 x hx
      · rw [List.getElem?_append_right (by omega)] at hx
        have := w5_at hx
        exact hA _ (by have := hS.1; omega)
  have tA : aT s cA (.array .int) := by
    obtain ⟨-, k9, hk9, cm9, hkk9⟩ := (hO 0 0 0).1
    exact ⟨fun N9 z9 => ⟨(fun q hq => by cases hq), k9, hk9, cm9, hkk9⟩, fA⟩
  have tI : aT s cy .int := by
    obtain ⟨-, k9, hk9, cm9, hkk9⟩ := (hI 0 (.int 0)).1
    exact ⟨fun N9 z9 => ⟨(fun q hq => by cases hq), k9, hk9, cm9, hkk9⟩, fC⟩
  have hag : ∀ k9, k9 < h.length → (fun k => if h.length ≤ k ∧ k < h.length + 5 then H.size + (k - h.length) else am k) k9 = am k9 := fun k9 hk9 => if_neg (by omega)
  have hnew : ∀ j, j < 5 → (fun k => if h.length ≤ k ∧ k < h.length + 5 then H.size + (k - h.length) else am k) (h.length + j) = H.size + j := fun j hj => by
    show (if _ then _ else _) = _
    rw [if_pos (by omega)]
    omega
  generalize hamE : (fun k => if h.length ≤ k ∧ k < h.length + 5 then H.size + (k - h.length) else am k) = am' at hag hnew
  have hH' : HOk D s A am' xa (h ++ a5 h.length) F.heap (ws ++ w5 H.size cA cy) := by
    obtain ⟨-, -, h3, h4, h5⟩ := hH
    refine ⟨hP1, hD1, by simp [h3, w5, a5], by simp [a5]; omega, fun k9 o' hk => ?_⟩
    by_cases hl9 : k9 < h.length
    · rw [List.getElem?_append_left hl9] at hk
      rw [List.getElem?_append_left (by omega)]
      obtain ⟨e1, e2, e3⟩ := h5 k9 o' hk
      exact ⟨e1, by rw [e2, hag k9 hl9], co_cl hag (List.all_eq_true.mp hcl o' (List.mem_of_getElem? hk)) e3⟩
    · rw [List.getElem?_append_right (by omega)] at hk ⊢
      rw [h3]
      obtain ⟨j, rfl⟩ : ∃ j, k9 = h.length + j := ⟨k9 - h.length, by omega⟩
      rw [show h.length + j - h.length = j by omega] at hk ⊢
      match j, hk with
      | 0, hk =>
        cases hk
        refine ⟨_, by rw [hnew 0 (by decide)]; rfl, cA, ?_, tA⟩
        congr 7
        funext i
        by_cases hi : i < 4
        · rw [if_pos hi, if_pos hi]
          show some (H.size + 1 + i) = some (am' (h.length + 1 + i))
          rw [show h.length + 1 + i = h.length + (1 + i) by omega, hnew (1 + i) (by omega), show H.size + 1 + i = H.size + (1 + i) by omega]
        · rw [if_neg hi, if_neg hi]
      | 1, hk => cases hk; exact ⟨_, by rw [hnew 1 (by decide)]; rfl, cy, rfl, tI⟩
      | 2, hk => cases hk; exact ⟨_, by rw [hnew 2 (by decide)]; rfl, cy, rfl, tI⟩
      | 3, hk => cases hk; exact ⟨_, by rw [hnew 3 (by decide)]; rfl, cy, rfl, tI⟩
      | 4, hk => cases hk; exact ⟨_, by rw [hnew 4 (by decide)]; rfl, cy, rfl, tI⟩
      | j + 5, hk => simp [a5] at hk
  have hS' : va_S A s.heap F.heap locs := ⟨by rw [h1]; have := hS.1; omega, fun x q1 q2 => (hold x (Nat.lt_of_lt_of_le q1 hS.1)).trans (hS.2.1 x q1 q2), hS.2.2⟩
  have g2 := g am' F.heap locs (ws ++ w5 H.size cA cy) lsC (by simp; omega) (fun k9 hk9 => by
    dsimp only at hk9
    rw [List.length_append, show (a5 h.length).length = 5 from rfl] at hk9
    rw [← hamE]
    show (if h.length ≤ k9 ∧ k9 < h.length + 5 then _ else am k9) = am0 k9
    rw [if_neg (by omega)]
    exact ham k9 (by omega)) hH' hS' (by dsimp only; rw [lc_cls hag hcl3]; exact hl) hg
  dsimp only at g2
  have e0 : am' h.length = H.size := hnew 0 (by decide)
  rw [List.map_cons, cv_ref _ (by omega), cv_cls hag hcl2, e0] at g2
  rw [hnx] at g2
  obtain ⟨t, b1, b2⟩ := g2 F rfl X'
  refine ⟨t, step t ?_, b2⟩
  have e1 : T.heap.size = H.size := by rw [hT]
  rw [e1]
  exact b1
section BI
theorem t_X0_init : Ct m_X0_init X0 [.ref 3] [.inr (.inr (4, [.ref 1, .null, .null, .int 0, .null])), .inr (.inr (2, [.ref 2])), .inl (.int, 162, iS 3), .inr (.inr (0, [.null, .int 0, .int 0]))] (fun rv h => rv = none ∧ h = [.inr (.inr (4, [.ref 1, .null, .null, .int 0, .null])), .inr (.inr (2, [.ref 2])), .inl (.int, 162, iS 3), .inr (.inr (0, [.ref 4, .int 0, .int 0]))] ++ a5 4) := by
  refine ⟨ok_X0_init, ?_⟩
  refine Rch.go rfl ?_
  refine Rch.oi rfl (by decide +kernel) rfl rfl rfl ?_
  refine Rch.go rfl ?_
  refine Rch.mna (o := 4) (cc' := 5) (cs' := 652) rfl (by decide +kernel) (by decide +kernel) rfl rfl rfl rfl rfl rfl rfl (by decide) (by decide) ?_
  refine Rch.go rfl ?_
  exact Rch.rv rfl rfl (by decide) (by decide) ⟨rfl, rfl⟩
end BI
end
section
/-! ===== a new barge ===== -/
section BJ
theorem t_X8_init : Ct m_X8_init X0 [.ref 0] [.inr (.inr (4, [.null, .null, .null, .int 0, .null]))] (fun rv h => rv = none ∧ h = hB2) := by
  refine ⟨ok_X8_init, ?_⟩
  refine Rch.go rfl ?_
  refine Rch.oi rfl (by decide +kernel) rfl rfl rfl ?_
  refine Rch.go rfl ?_
  refine Rch.new (N := 1) (o := 1) (cc' := 1) (cs' := 1) (C := RX6) (T := TX6) (fs := [.null]) rfl rfl rfl rfl rfl rfl rfl rfl rfl rfl (by decide) (by decide) rfl ?_
  refine Rch.go rfl ?_
  refine Rch.callG 3 t_X6_init rfl rfl g_X8_9 om_X6_init rfl (fun _ _ _ q => q) rfl rfl rfl rfl (cc' := 2) (cs' := 163) rfl rfl (by decide) (by decide) rfl rfl (fun rv9 h9 q9 => ?_)
  obtain ⟨rfl, rfl⟩ := q9
  refine Rch.go rfl ?_
  refine Rch.new (N := 3) (o := 3) (cc' := 3) (cs' := 166) (C := RX0) (T := TX0) (fs := [.null, .int 0, .int 0]) rfl rfl rfl rfl rfl rfl rfl rfl rfl rfl (by decide) (by decide) rfl ?_
  refine Rch.go rfl ?_
  refine Rch.callG 4 t_X0_init rfl rfl g_X8_18 om_X0_init rfl (fun _ _ _ q => q) rfl rfl rfl rfl (cc' := 8) (cs' := 818) rfl rfl (by decide) (by decide) rfl rfl (fun rv9 h9 q9 => ?_)
  obtain ⟨rfl, rfl⟩ := q9
  refine Rch.go rfl ?_
  refine Rch.newa (N := 162) (o := 9) (cc' := 9) (cs' := 980) (ty := .int) rfl rfl rfl (by decide +kernel) rfl (by decide) (by decide) rfl rfl rfl rfl rfl rfl rfl (by decide) (by decide) ?_
  refine Rch.go rfl ?_
  refine Rch.new (N := 6) (o := 10) (cc' := 10) (cs' := 986) (C := RX3) (T := TX3) (fs := [.null, .int 0, .null, .null, .int 0, .int 0]) rfl rfl rfl rfl rfl rfl rfl rfl rfl rfl (by decide) (by decide) rfl ?_
  refine Rch.go rfl ?_
  refine Rch.callG 4 t_X3_init rfl rfl g_X8_29 om_X3_init rfl (fun _ _ _ q => q) rfl rfl rfl rfl (cc' := 13) (cs' := 1166) rfl rfl (by decide) (by decide) rfl rfl (fun rv9 h9 q9 => ?_)
  obtain ⟨rfl, rfl⟩ := q9
  refine Rch.go rfl ?_
  exact Rch.rv rfl rfl (by decide) (by decide) ⟨rfl, rfl⟩
end BJ
end
section
/-! ===== numbers, sums, the ranges of the cells, the balance of water ===== -/
theorem pzA {a b : Int32} (h1 : -2147483648 ≤ a.toInt + b.toInt) (h2 : a.toInt + b.toInt ≤ 2147483647) : (a + b).toInt = a.toInt + b.toInt := by
  rw [Int32.toInt_add]; exact Int.bmod_eq_of_le (by omega) (by omega)
theorem pzS {a b : Int32} (h1 : -2147483648 ≤ a.toInt - b.toInt) (h2 : a.toInt - b.toInt ≤ 2147483647) : (a - b).toInt = a.toInt - b.toInt := by
  rw [Int32.toInt_sub]; exact Int.bmod_eq_of_le (by omega) (by omega)
theorem pzM {a b : Int32} (h1 : -2147483648 ≤ a.toInt * b.toInt) (h2 : a.toInt * b.toInt ≤ 2147483647) : (a * b).toInt = a.toInt * b.toInt := by
  rw [Int32.toInt_mul]; exact Int.bmod_eq_of_le (by omega) (by omega)
theorem pzNg {a : Int32} (h1 : -2147483647 ≤ a.toInt) : (-a).toInt = -a.toInt := by
  have := Int32.toInt_lt a
  rw [Int32.toInt_neg]; exact Int.bmod_eq_of_le (by omega) (by omega)
theorem pzD {a b : Int32} (h : b ≠ -1) : (a / b).toInt = a.toInt.tdiv b.toInt := Int32.toInt_div_of_ne_right a b h
theorem pzlt {a b : Int32} : a < b ↔ a.toInt < b.toInt := Int32.lt_iff_toInt_lt
theorem pzE {a b : Int32} (h : a.toInt = b.toInt) : a = b := Int32.toInt_inj.mp h
theorem pzK {a : Int32} (h : 0 ≤ a.toInt) : ∃ k : Nat, a = nI k ∧ k < 2 ^ 31 ∧ (k : Int) = a.toInt := by
  have h2 := Int32.toInt_lt a
  have h3 : a.toInt.toNat < 2 ^ 31 := by omega
  exact ⟨a.toInt.toNat, pzE (by rw [nI_toInt h3]; omega), h3, by omega⟩
theorem pzB (a : Int32) : -2147483648 ≤ a.toInt ∧ a.toInt ≤ 2147483647 := by
  have h1 := Int32.toInt_lt a
  have h2 := Int32.le_toInt a
  omega
theorem fs_shift (a b : Int32) (f : Nat → Int32) : ∀ n, fs (a + b) f n = a + fs b f n
  | 0 => rfl
  | n + 1 => by
    show fs (a + b) f n + f n = a + (fs b f n + f n)
    rw [fs_shift a b f n, Int32.add_assoc]
theorem fs_z (a : Int32) (f : Nat → Int32) (n : Nat) : fs a f n = a + fs 0 f n := by rw [← fs_shift, Int32.add_zero]
theorem fs_cong {a : Int32} {f g : Nat → Int32} : ∀ n, (∀ k, k < n → f k = g k) → fs a f n = fs a g n
  | 0, _ => rfl
  | n + 1, h => by
    show fs a f n + f n = fs a g n + g n
    rw [fs_cong n (fun k hk => h k (by omega)), h n (by omega)]
theorem fs_upd {a : Int32} {f : Nat → Int32} {k : Nat} {v : Int32} : ∀ n, k < n → fs a (upd f k v) n = fs a f n + (v - f k)
  | 0, h => absurd h (Nat.not_lt_zero _)
  | n + 1, h => by
    show fs a (upd f k v) n + upd f k v n = fs a f n + f n + (v - f k)
    by_cases e : k = n
    · subst e
      rw [pk_us, show fs a (upd f k v) k = fs a f k from fs_cong k (fun j hj => pk_un (by omega))]
      grind
    · rw [pk_un (by omega), fs_upd n (by omega)]
      grind
theorem fs_bd {a : Int32} {f : Nat → Int32} {lo hi : Int} (hlo : lo ≤ 0) (hhi : 0 ≤ hi) : ∀ n : Nat, (∀ k, k < n → lo ≤ (f k).toInt ∧ (f k).toInt ≤ hi) → -2147483648 ≤ a.toInt + n * lo → a.toInt + n * hi ≤ 2147483647 → a.toInt + n * lo ≤ (fs a f n).toInt ∧ (fs a f n).toInt ≤ a.toInt + n * hi
  | 0, _, _, _ => by show a.toInt + ((0 : Nat) : Int) * lo ≤ a.toInt ∧ a.toInt ≤ a.toInt + ((0 : Nat) : Int) * hi; simp
  | n + 1, h, h1, h2 => by
    have e1 : ((n + 1 : Nat) : Int) * lo = (n : Int) * lo + lo := by rw [Int.natCast_succ, Int.add_mul, Int.one_mul]
    have e2 : ((n + 1 : Nat) : Int) * hi = (n : Int) * hi + hi := by rw [Int.natCast_succ, Int.add_mul, Int.one_mul]
    rw [e1] at h1 ⊢
    rw [e2] at h2 ⊢
    have ih := fs_bd (a := a) (f := f) hlo hhi n (fun k hk => h k (by omega)) (by omega) (by omega)
    have hn := h n (by omega)
    have e3 : (fs a f (n + 1)).toInt = (fs a f n).toInt + (f n).toInt := pzA (by omega) (by omega)
    omega
/-- the range of a cell -/
def pzR (j : Nat) : Int × Int := if j < 8 then (0, 100) else if j < 16 then (0, 9) else if j < 32 then (-2147483648, 2147483647) else if j < 40 then (0, 3) else if j < 112 then (-2147483648, 2147483647) else if j < 115 then (0, 300) else if j < 118 then (-3, 3) else if j < 123 then (1, 255) else if j < 128 then (0, 1) else if j = 128 then (1, 9) else if j = 129 then (2, 99) else if j = 130 then (50, 200) else (-2147483648, 2147483647)
def Rgz (c : FA) : Prop := ∀ j, j < 162 → (pzR j).1 ≤ (c j).toInt ∧ (c j).toInt ≤ (pzR j).2
def pzF (j : Nat) : Prop := (16 ≤ j ∧ j < 32) ∨ (40 ≤ j ∧ j < 112) ∨ 131 ≤ j
theorem pzR_F {j : Nat} (h : pzF j) : pzR j = (-2147483648, 2147483647) := by
  unfold pzF at h
  unfold pzR
  repeat' (first | rfl | (exfalso; omega) | split)
theorem pzR_0 {t : Nat} (h : t < 8) : pzR t = (0, 100) := if_pos h
theorem pzR_8 {t : Nat} (h : t < 8) : pzR (8 + t) = (0, 9) := by
  unfold pzR
  rw [if_neg (by omega), if_pos (by omega)]
theorem pzR_32 {t : Nat} (h : t < 8) : pzR (32 + t) = (0, 3) := by
  unfold pzR
  rw [if_neg (by omega), if_neg (by omega), if_neg (by omega), if_pos (by omega)]
theorem pzR_112 {t : Nat} (h : t < 3) : pzR (112 + t) = (0, 300) := by
  unfold pzR
  rw [if_neg (by omega), if_neg (by omega), if_neg (by omega), if_neg (by omega), if_neg (by omega), if_pos (by omega)]
theorem pzR_115 {t : Nat} (h : t < 3) : pzR (115 + t) = (-3, 3) := by
  unfold pzR
  rw [if_neg (by omega), if_neg (by omega), if_neg (by omega), if_neg (by omega), if_neg (by omega), if_neg (by omega), if_pos (by omega)]
theorem pzR_118 {t : Nat} (h : t < 5) : pzR (118 + t) = (1, 255) := by
  unfold pzR
  rw [if_neg (by omega), if_neg (by omega), if_neg (by omega), if_neg (by omega), if_neg (by omega), if_neg (by omega), if_neg (by omega), if_pos (by omega)]
theorem pzR_123 {t : Nat} (h : t < 5) : pzR (123 + t) = (0, 1) := by
  unfold pzR
  rw [if_neg (by omega), if_neg (by omega), if_neg (by omega), if_neg (by omega), if_neg (by omega), if_neg (by omega), if_neg (by omega), if_neg (by omega), if_pos (by omega)]
theorem Rgz.at {c : FA} (h : Rgz c) {j : Nat} {lo hi : Int} (e : pzR j = (lo, hi)) (hj : j < 162) : lo ≤ (c j).toInt ∧ (c j).toInt ≤ hi := by
  have := h j hj
  rw [e] at this
  exact this
theorem Rgz.w {c : FA} (h : Rgz c) {t : Nat} (ht : t < 8) : 0 ≤ (c t).toInt ∧ (c t).toInt ≤ 100 := h.at (pzR_0 ht) (by omega)
theorem Rgz.k {c : FA} (h : Rgz c) {t : Nat} (ht : t < 8) : 0 ≤ (c (8 + t)).toInt ∧ (c (8 + t)).toInt ≤ 9 := h.at (pzR_8 ht) (by omega)
theorem Rgz.s {c : FA} (h : Rgz c) {t : Nat} (ht : t < 8) : 0 ≤ (c (32 + t)).toInt ∧ (c (32 + t)).toInt ≤ 3 := h.at (pzR_32 ht) (by omega)
theorem Rgz.l {c : FA} (h : Rgz c) {t : Nat} (ht : t < 3) : 0 ≤ (c (112 + t)).toInt ∧ (c (112 + t)).toInt ≤ 300 := h.at (pzR_112 ht) (by omega)
theorem Rgz.f {c : FA} (h : Rgz c) {t : Nat} (ht : t < 3) : -3 ≤ (c (115 + t)).toInt ∧ (c (115 + t)).toInt ≤ 3 := h.at (pzR_115 ht) (by omega)
theorem Rgz.g {c : FA} (h : Rgz c) {t : Nat} (ht : t < 5) : 1 ≤ (c (118 + t)).toInt ∧ (c (118 + t)).toInt ≤ 255 := h.at (pzR_118 ht) (by omega)
theorem Rgz.o {c : FA} (h : Rgz c) {t : Nat} (ht : t < 5) : 0 ≤ (c (123 + t)).toInt ∧ (c (123 + t)).toInt ≤ 1 := h.at (pzR_123 ht) (by omega)
theorem Rgz.q1 {c : FA} (h : Rgz c) : 1 ≤ (c 128).toInt ∧ (c 128).toInt ≤ 9 := h.at rfl (by decide)
theorem Rgz.q2 {c : FA} (h : Rgz c) : 2 ≤ (c 129).toInt ∧ (c 129).toInt ≤ 99 := h.at rfl (by decide)
theorem Rgz.q3 {c : FA} (h : Rgz c) : 50 ≤ (c 130).toInt ∧ (c 130).toInt ≤ 200 := h.at rfl (by decide)
theorem Rgz.up {c : FA} (h : Rgz c) {j : Nat} {v : Int32} (hv : (pzR j).1 ≤ v.toInt ∧ v.toInt ≤ (pzR j).2) : Rgz (upd c j v) := by
  intro i hi
  by_cases e : i = j
  · subst e; rw [pk_us]; exact hv
  · rw [pk_un e]; exact h i hi
theorem Rgz.fr {c : FA} (h : Rgz c) {j : Nat} {v : Int32} (hj : pzF j) : Rgz (upd c j v) := h.up (by rw [pzR_F hj]; exact pzB v)
theorem Rgz.low {c d : FA} (h : Rgz c) (hd : ∀ j, j < 131 → ¬ pzF j → d j = c j) : Rgz d := by
  intro j hj
  by_cases e : pzF j
  · rw [pzR_F e]; exact pzB _
  · have : j < 131 := by unfold pzF at e; omega
    rw [hd j this e]; exact h j hj
/-- all the water; all the loads -/
def pzT (c : FA) : Int32 := fs 0 c 8
def pzL (c : FA) : Int32 := fs 0 (fun h => c (112 + h)) 3
theorem wgt_pz (c : FA) : wgt c = 400 + pzT c + pzL c := by
  unfold wgt pzT pzL
  rw [fs_z (fs 400 c 8) (fun h => c (112 + h)) 3, fs_z 400 c 8]
theorem pzT_bd {c : FA} (h : Rgz c) : 0 ≤ (pzT c).toInt ∧ (pzT c).toInt ≤ 800 := by
  have i0 : (0 : Int32).toInt = 0 := rfl
  have b := fs_bd (a := 0) (f := c) (lo := 0) (hi := 100) (by omega) (by omega) 8 (fun k hk => h.w hk) (by rw [i0]; omega) (by rw [i0]; omega)
  rw [i0] at b
  unfold pzT
  omega
theorem pzL_bd {c : FA} (h : Rgz c) : 0 ≤ (pzL c).toInt ∧ (pzL c).toInt ≤ 900 := by
  have i0 : (0 : Int32).toInt = 0 := rfl
  have b := fs_bd (a := 0) (f := fun h => c (112 + h)) (lo := 0) (hi := 300) (by omega) (by omega) 3 (fun k hk => h.l hk) (by rw [i0]; omega) (by rw [i0]; omega)
  rw [i0] at b
  unfold pzL
  omega
theorem wgt_in {c : FA} (h : Rgz c) : (wgt c).toInt = 400 + (pzT c).toInt + (pzL c).toInt := by
  have h1 := pzT_bd h
  have h2 := pzL_bd h
  rw [wgt_pz]
  have e0 : (400 : Int32).toInt = 400 := rfl
  have e1 : (400 + pzT c).toInt = 400 + (pzT c).toInt := by rw [pzA (by omega) (by omega), e0]
  rw [pzA (by omega) (by omega), e1]
theorem wgt_bd {c : FA} (h : Rgz c) : 400 ≤ (wgt c).toInt ∧ (wgt c).toInt ≤ 2100 := by
  have h1 := pzT_bd h
  have h2 := pzL_bd h
  rw [wgt_in h]
  omega
theorem pzT_ne {c : FA} {j : Nat} {v : Int32} (h : 8 ≤ j) : pzT (upd c j v) = pzT c := fs_cong 8 (fun k hk => pk_un (by omega))
theorem pzT_ad {c : FA} {k : Nat} {v : Int32} (h : k < 8) : pzT (ad c k v) = pzT c + v := by
  unfold pzT ad
  rw [fs_upd 8 h]
  grind
theorem pzL_ne {c : FA} {j : Nat} {v : Int32} (h : j < 112 ∨ 115 ≤ j) : pzL (upd c j v) = pzL c := fs_cong 3 (fun k hk => pk_un (by omega))
theorem lostS_ne {c : FA} {j : Nat} {v : Int32} (h : j < 16 ∨ 24 ≤ j) : lostS (upd c j v) = lostS c := fs_cong 8 (fun k hk => pk_un (by omega))
theorem lostS_ad {c : FA} {k : Nat} {v : Int32} (h : k < 8) : lostS (ad c (16 + k) v) = lostS c + v := by
  have e : lostS (ad c (16 + k) v) = fs 0 (upd (fun t => c (16 + t)) k (c (16 + k) + v)) 8 := fs_cong 8 (fun t ht => by
    by_cases e : t = k
    · subst e; exact Eq.trans pk_us pk_us.symm
    · exact Eq.trans (pk_un (by omega)) (show upd (fun t => c (16 + t)) k (c (16 + k) + v) t = c (16 + t) from pk_un e).symm)
  rw [e, fs_upd 8 h]
  unfold lostS
  grind
/-- the balance of water -/
def Wbz (c : FA) : Prop := pzT c + lostS c + c 158 = 160 + c 157
/-- not deeper than may be -/
def dpz (c : FA) : Prop := wgt c / 10 ≤ c 130
theorem dpz_in {c : FA} (h : Rgz c) : dpz c ↔ (wgt c).toInt < 10 * ((c 130).toInt + 1) := by
  have h1 := wgt_bd h
  have h3 := h.q3
  unfold dpz
  rw [Int32.le_iff_toInt_le, pzD (by decide), show (10 : Int32).toInt = 10 from rfl, Int.tdiv_eq_ediv_of_nonneg (by omega)]
  omega
end
section
/-! ===== what minutes keep ===== -/
/-- from c to d, by the pump's mode m: ranges, balance, what levelling keeps, the draught when filling -/
def pzJ (m : Int32) (c d : FA) : Prop := Rgz d ∧ (Wbz c → Wbz d) ∧ (m = 4 → pzT d + lostS d = pzT c + lostS c) ∧ (m = 2 → dpz c → dpz d)
theorem pzJ.rf {m : Int32} {c : FA} (h : Rgz c) : pzJ m c c := ⟨h, fun q => q, fun _ => rfl, fun _ q => q⟩
theorem pzJ.tr {m : Int32} {c d e : FA} (h : pzJ m c d) (g : pzJ m d e) : pzJ m c e := ⟨g.1, fun q => g.2.1 (h.2.1 q), fun q => (g.2.2.1 q).trans (h.2.2.1 q), fun q z => g.2.2.2 q (h.2.2.2 q z)⟩
theorem tfi_in {c : FA} {x : Int32} {k : Nat} (h : tfi c x = some k) : c k < 100 ∧ (wgt c + 1) / 10 ≤ c 130 := by
  unfold tfi at h
  split at h
  · cases h
  · split at h
    · next h1 =>
      split at h
      · next h2 => cases h; exact ⟨h1, h2⟩
      · cases h
    · cases h
theorem tem_in {c : FA} {x : Int32} {k : Nat} (h : tem c x = some k) : 0 < c k := by
  unfold tem at h
  split at h
  · cases h
  · split at h
    · next h1 => cases h; exact h1
    · cases h
theorem tlo_in {c : FA} {x : Int32} {k : Nat} (h : tlo c x = some k) : ∃ t, emp c x 8 = some t ∧ ¬ c k - c t < 2 := by
  unfold tlo at h
  split at h
  · cases h
  · split at h
    · cases h
    · next t ht =>
      split at h
      · cases h
      · next z => cases h; exact ⟨t, ht, z⟩
theorem mvb_T {c : FA} {k : Nat} {u : Int32} (hk : k < 8) : pzT (mvb c k u) = pzT c + u := by
  unfold mvb
  rw [show ad (ad c k u) (24 + k) 1 = upd (ad c k u) (24 + k) (ad c k u (24 + k) + 1) from rfl, pzT_ne (by omega), pzT_ad hk]
theorem mvb_L {c : FA} {k : Nat} {u : Int32} (hk : k < 8) : pzL (mvb c k u) = pzL c := by
  unfold mvb ad
  rw [pzL_ne (by omega), pzL_ne (by omega)]
theorem mvb_lost {c : FA} {k : Nat} {u : Int32} (hk : k < 8) : lostS (mvb c k u) = lostS c := by
  unfold mvb ad
  rw [lostS_ne (by omega), lostS_ne (by omega)]
theorem mvb_hi {c : FA} {k j : Nat} {u : Int32} (hk : k < 8) (hj : 32 ≤ j) : mvb c k u j = c j := by
  unfold mvb ad
  rw [pk_un (by omega), pk_un (by omega)]
theorem mvb_k {c : FA} {k : Nat} {u : Int32} (hk : k < 8) : mvb c k u k = c k + u := by
  unfold mvb ad
  rw [pk_un (by omega), pk_us]
theorem mvb_o {c : FA} {k j : Nat} {u : Int32} (hj : j < 8) (h : j ≠ k) : mvb c k u j = c j := by
  unfold mvb ad
  rw [pk_un (by omega), pk_un h]
theorem mvb_R {c : FA} (h : Rgz c) {k : Nat} {u : Int32} (hk : k < 8) (hu : 0 ≤ (c k + u).toInt ∧ (c k + u).toInt ≤ 100) : Rgz (mvb c k u) := by
  unfold mvb
  refine Rgz.fr (Rgz.up h ?_) (by unfold pzF; omega)
  rw [pzR_0 hk]
  exact hu
theorem mvu_J {m x : Int32} {c d : FA} (h : Rgz c) (hd : mvu m c x = some d) : pzJ m c d := by
  have i1 : (1 : Int32).toInt = 1 := rfl
  have im : (-1 : Int32).toInt = -1 := rfl
  unfold mvu at hd
  by_cases e2 : m = 2
  · rw [if_pos e2] at hd
    cases ht : tfi c x with
    | none =>
      rw [ht] at hd
      cases (show (none : Option FA) = some d from hd)
    | some k =>
      rw [ht] at hd
      have hd : some (ad (mvb c k 1) 157 1) = some d := hd
      cases hd
      have hk := tfi_lt ht
      obtain ⟨t1, t2⟩ := tfi_in ht
      have hw := h.w hk
      rw [Int32.lt_iff_toInt_lt, show (100 : Int32).toInt = 100 from rfl] at t1
      have e3 : (c k + 1).toInt = (c k).toInt + 1 := by rw [pzA (by omega) (by omega), i1]
      have hR : Rgz (ad (mvb c k 1) 157 1) := Rgz.fr (mvb_R h hk (by omega)) (by unfold pzF; omega)
      have eT : pzT (ad (mvb c k 1) 157 1) = pzT c + 1 := by rw [show ad (mvb c k 1) 157 1 = upd (mvb c k 1) 157 (mvb c k 1 157 + 1) from rfl, pzT_ne (by decide), mvb_T hk]
      have eL : pzL (ad (mvb c k 1) 157 1) = pzL c := by rw [show ad (mvb c k 1) 157 1 = upd (mvb c k 1) 157 (mvb c k 1 157 + 1) from rfl, pzL_ne (by decide), mvb_L hk]
      have eS : lostS (ad (mvb c k 1) 157 1) = lostS c := by rw [show ad (mvb c k 1) 157 1 = upd (mvb c k 1) 157 (mvb c k 1 157 + 1) from rfl, lostS_ne (by decide), mvb_lost hk]
      refine ⟨hR, fun q => ?_, fun q => absurd (e2.symm.trans q) (by decide), fun _ _ => ?_⟩
      · unfold Wbz at q ⊢
        rw [eT, eS, show ad (mvb c k 1) 157 1 158 = c 158 by unfold ad; rw [pk_un (by decide), mvb_hi hk (by decide)], show ad (mvb c k 1) 157 1 157 = c 157 + 1 by unfold ad; rw [pk_us, mvb_hi hk (by decide)]]
        grind
      · unfold dpz
        rw [show wgt (ad (mvb c k 1) 157 1) = wgt c + 1 by rw [wgt_pz, wgt_pz, eT, eL]; grind, show ad (mvb c k 1) 157 1 130 = c 130 by unfold ad; rw [pk_un (by decide), mvb_hi hk (by decide)]]
        exact t2
  rw [if_neg e2] at hd
  by_cases e3 : m = 3
  · rw [if_pos e3] at hd
    cases ht : tem c x with
    | none =>
      rw [ht] at hd
      cases (show (none : Option FA) = some d from hd)
    | some k =>
      rw [ht] at hd
      have hd : some (ad (mvb c k (-1)) 158 1) = some d := hd
      cases hd
      have hk := tem_lt ht
      have t1 := tem_in ht
      have hw := h.w hk
      rw [Int32.lt_iff_toInt_lt, show (0 : Int32).toInt = 0 from rfl] at t1
      have e4 : (c k + -1).toInt = (c k).toInt + -1 := by rw [pzA (by omega) (by omega), im]
      have hR : Rgz (ad (mvb c k (-1)) 158 1) := Rgz.fr (mvb_R h hk (by omega)) (by unfold pzF; omega)
      refine ⟨hR, fun q => ?_, fun q => absurd (e3.symm.trans q) (by decide), fun q => absurd q e2⟩
      unfold Wbz at q ⊢
      rw [show ad (mvb c k (-1)) 158 1 = upd (mvb c k (-1)) 158 (mvb c k (-1) 158 + 1) from rfl, pzT_ne (by decide), mvb_T hk, lostS_ne (by decide), mvb_lost hk, pk_us, pk_un (by decide), mvb_hi hk (by decide), mvb_hi hk (by decide)]
      grind
  rw [if_neg e3] at hd
  by_cases e4 : m = 4
  · rw [if_pos e4] at hd
    cases ht : tlo c x with
    | none =>
      rw [ht] at hd
      cases (show (none : Option FA) = some d from hd)
    | some f =>
      rw [ht] at hd
      obtain ⟨t, he, hlt⟩ := tlo_in ht
      rw [he] at hd
      have hd : some (ad (mvb (mvb c f (-1)) t 1) 159 1) = some d := hd
      cases hd
      have hf := tlo_lt ht
      have htl := emp_lt he
      have wf := h.w hf
      have wt := h.w htl
      rw [Int32.lt_iff_toInt_lt, pzS (by omega) (by omega), show (2 : Int32).toInt = 2 from rfl] at hlt
      have hne : t ≠ f := fun e => by subst e; omega
      have a1 : (c f + -1).toInt = (c f).toInt + -1 := by rw [pzA (by omega) (by omega), im]
      have a2 : (c t + 1).toInt = (c t).toInt + 1 := by rw [pzA (by omega) (by omega), i1]
      have hR1 : Rgz (mvb c f (-1)) := mvb_R h hf (by omega)
      have hR : Rgz (ad (mvb (mvb c f (-1)) t 1) 159 1) := Rgz.fr (mvb_R hR1 htl (by rw [mvb_o htl hne]; omega)) (by unfold pzF; omega)
      have eT : pzT (ad (mvb (mvb c f (-1)) t 1) 159 1) = pzT c := by
        rw [show ad (mvb (mvb c f (-1)) t 1) 159 1 = upd (mvb (mvb c f (-1)) t 1) 159 (mvb (mvb c f (-1)) t 1 159 + 1) from rfl, pzT_ne (by decide), mvb_T htl, mvb_T hf]
        grind
      have eS : lostS (ad (mvb (mvb c f (-1)) t 1) 159 1) = lostS c := by
        rw [show ad (mvb (mvb c f (-1)) t 1) 159 1 = upd (mvb (mvb c f (-1)) t 1) 159 (mvb (mvb c f (-1)) t 1 159 + 1) from rfl, lostS_ne (by decide), mvb_lost htl, mvb_lost hf]
      refine ⟨hR, fun q => ?_, fun _ => by rw [eT, eS], fun q => absurd q e2⟩
      unfold Wbz at q ⊢
      rw [eT, eS, show ad (mvb (mvb c f (-1)) t 1) 159 1 158 = c 158 by unfold ad; rw [pk_un (by decide), mvb_hi htl (by decide), mvb_hi hf (by decide)], show ad (mvb (mvb c f (-1)) t 1) 159 1 157 = c 157 by unfold ad; rw [pk_un (by decide), mvb_hi htl (by decide), mvb_hi hf (by decide)]]
      exact q
  rw [if_neg e4] at hd
  cases hd
theorem pmp_1 {m x : Int32} {r : Nat} {c : FA} : pmp m x (r + 1) c = match mvu m c x with
    | some c' => pmp m x r c'
    | none => c := rfl
theorem pmp_J {m x : Int32} : ∀ (r : Nat) (c : FA), Rgz c → pzJ m c (pmp m x r c)
  | 0, c, h => pzJ.rf h
  | r + 1, c, h => by
    rw [pmp_1]
    cases hv : mvu m c x with
    | none => exact pzJ.rf h
    | some d =>
      have g := mvu_J h hv
      exact g.tr (pmp_J r d g.1)
/-- what leaks out of tank n -/
def lkv (c : FA) (n : Nat) : Int32 := if lk c n n < lk c n (8 + n) then lk c n n else lk c n (8 + n)
theorem lk_s (c : FA) (n : Nat) : lk c (n + 1) = ad (ad (lk c n) n (-(lkv c n))) (16 + n) (lkv c n) := rfl
theorem lk_J {m : Int32} {c : FA} (h : Rgz c) : ∀ n, n ≤ 8 → pzJ m c (lk c n)
  | 0, _ => pzJ.rf h
  | n + 1, hn => by
    have g := lk_J (m := m) h n (by omega)
    refine g.tr ?_
    have hn8 : n < 8 := by omega
    have hw := g.1.w hn8
    have hk := g.1.k hn8
    have hv : 0 ≤ (lkv c n).toInt ∧ (lkv c n).toInt ≤ (lk c n n).toInt := by
      unfold lkv
      split
      · omega
      · next z =>
        rw [Int32.lt_iff_toInt_lt] at z
        omega
    rw [lk_s]
    generalize lkv c n = v at hv ⊢
    generalize lk c n = d at *
    have e1 : (-v).toInt = -v.toInt := pzNg (by omega)
    have e2 : (d n + -v).toInt = (d n).toInt + -v.toInt := by rw [pzA (by omega) (by omega), e1]
    have hR : Rgz (ad (ad d n (-v)) (16 + n) v) := Rgz.fr (Rgz.up g.1 (by rw [pzR_0 hn8]; show 0 ≤ (d n + -v).toInt ∧ (d n + -v).toInt ≤ 100; omega)) (by unfold pzF; omega)
    have eT : pzT (ad (ad d n (-v)) (16 + n) v) = pzT d + -v := by
      rw [show ad (ad d n (-v)) (16 + n) v = upd (ad d n (-v)) (16 + n) (ad d n (-v) (16 + n) + v) from rfl, pzT_ne (by omega), pzT_ad hn8]
    have eL : pzL (ad (ad d n (-v)) (16 + n) v) = pzL d := by
      unfold ad
      rw [pzL_ne (by omega), pzL_ne (by omega)]
    have eS : lostS (ad (ad d n (-v)) (16 + n) v) = lostS d + v := by
      rw [lostS_ad hn8, show ad d n (-v) = upd d n (d n + -v) from rfl, lostS_ne (by omega)]
    have eh : ∀ j, 32 ≤ j → ad (ad d n (-v)) (16 + n) v j = d j := fun j hj => by unfold ad; rw [pk_un (by omega), pk_un (by omega)]
    refine ⟨hR, fun q => ?_, fun _ => ?_, fun _ q => ?_⟩
    · unfold Wbz at q ⊢
      rw [eT, eS, eh 158 (by decide), eh 157 (by decide)]
      grind
    · rw [eT, eS]
      grind
    · rw [dpz_in g.1] at q
      rw [dpz_in hR, wgt_in hR, eT, eL, eh 130 (by decide)]
      rw [wgt_in g.1] at q
      have b1 := pzT_bd g.1
      have b2 := pzT_bd hR
      rw [eT] at b2
      have e3 : (pzT d + -v).toInt = (pzT d).toInt + -v.toInt := by rw [pzA (by omega) (by omega), e1]
      omega
theorem lkm_J {m : Int32} {c : FA} (h : Rgz c) : pzJ m c (lkm c) := by
  unfold lkm
  split
  · exact lk_J h 8 (Nat.le_refl 8)
  · exact pzJ.rf h
theorem abi_in (x : Int32) (h : -2147483647 ≤ x.toInt) : (abi x).toInt = if 0 ≤ x.toInt then x.toInt else -x.toInt := by
  have i0 : (0 : Int32).toInt = 0 := rfl
  have h2 := pzB x
  unfold abi
  by_cases z : 0 ≤ x
  · rw [if_pos z]
    rw [Int32.le_iff_toInt_le, i0] at z
    rw [if_pos z]
  · rw [if_neg z]
    rw [Int32.le_iff_toInt_le, i0] at z
    rw [if_neg z, pzS (by omega) (by omega), i0]
    omega
theorem pzJ.un {m : Int32} {c d : FA} (hR : Rgz d) (e : ∀ j, j < 115 ∨ j = 130 ∨ j = 157 ∨ j = 158 → d j = c j) : pzJ m c d := by
  have eT : pzT d = pzT c := fs_cong 8 (fun k hk => e k (by omega))
  have eL : pzL d = pzL c := fs_cong 3 (fun k hk => e (112 + k) (by omega))
  have eS : lostS d = lostS c := fs_cong 8 (fun k hk => e (16 + k) (by omega))
  refine ⟨hR, fun q => ?_, fun _ => by rw [eT, eS], fun _ q => ?_⟩
  · unfold Wbz at q ⊢
    rw [eT, eS, e 158 (by omega), e 157 (by omega)]
    exact q
  · unfold dpz at q ⊢
    rw [wgt_pz, eT, eL, e 130 (by omega), ← wgt_pz]
    exact q
theorem shl_J {m : Int32} {c : FA} (h : Rgz c) {st : Int32} (hst : st = 1 ∨ st = -1) : ∀ n, n ≤ 3 → pzJ m c (shl c st n)
  | 0, _ => pzJ.rf h
  | n + 1, hn => by
    have g := shl_J (m := m) h hst n (by omega)
    refine g.tr ?_
    have hf := g.1.f (show n < 3 by omega)
    rw [show shl c st (n + 1) = if 0 < shl c st n (112 + n) ∧ abi (shl c st n (115 + n) + st) ≤ 3 then ad (upd (shl c st n) (115 + n) (shl c st n (115 + n) + st)) 161 1 else shl c st n from rfl]
    generalize shl c st n = d at *
    split
    · next z =>
      have e1 : (d (115 + n) + st).toInt = (d (115 + n)).toInt + st.toInt := by
        rcases hst with rfl | rfl
        · rw [pzA (by rw [show (1 : Int32).toInt = 1 from rfl]; omega) (by rw [show (1 : Int32).toInt = 1 from rfl]; omega)]
        · rw [pzA (by rw [show (-1 : Int32).toInt = -1 from rfl]; omega) (by rw [show (-1 : Int32).toInt = -1 from rfl]; omega)]
      have e2 : -1 ≤ st.toInt ∧ st.toInt ≤ 1 := by rcases hst with rfl | rfl <;> decide
      have z2 := z.2
      rw [Int32.le_iff_toInt_le, abi_in _ (by omega), show (3 : Int32).toInt = 3 from rfl] at z2
      have hR : Rgz (ad (upd d (115 + n) (d (115 + n) + st)) 161 1) := by
        refine Rgz.fr (Rgz.up g.1 ?_) (by unfold pzF; omega)
        rw [pzR_115 (by omega)]
        show -3 ≤ (d (115 + n) + st).toInt ∧ (d (115 + n) + st).toInt ≤ 3
        split at z2 <;> omega
      exact pzJ.un hR (fun j hj => by unfold ad; rw [pk_un (by omega), pk_un (by omega)])
    · exact pzJ.rf g.1
theorem shf_J {m : Int32} {c : FA} (h : Rgz c) : pzJ m c (shf c) := by
  unfold shf
  split
  · exact shl_J h (by split <;> simp) 3 (Nat.le_refl 3)
  · exact pzJ.rf h
theorem mnt_J {m x : Int32} {r : Nat} {c : FA} (h : Rgz c) : pzJ m c (mnt m x r c) := by
  have g1 : pzJ m c (ad c 156 1) := pzJ.un (Rgz.fr h (by unfold pzF; omega)) (fun j hj => by unfold ad; exact pk_un (by omega))
  have g2 := g1.tr (pmp_J (x := x) r _ g1.1)
  have g3 := g2.tr (lkm_J (m := m) g2.1)
  exact g3.tr (shf_J g3.1)
theorem mns_J {m x : Int32} {r : Nat} {c : FA} (h : Rgz c) : ∀ n, pzJ m c (mns m x r c n)
  | 0 => pzJ.rf h
  | n + 1 => (mns_J h n).tr (mnt_J (mns_J (m := m) (x := x) (r := r) h n).1)
end
section
/-! ===== counters over minutes; with the pump off; acts on the cells ===== -/
theorem mvu_hi {m x : Int32} {c d : FA} (hd : mvu m c x = some d) {j : Nat} (hj : 32 ≤ j) (h1 : j < 157 ∨ 159 < j) : d j = c j := by
  unfold mvu at hd
  split at hd
  · unfold mfu at hd
    split at hd
    · cases hd
    · next k hk => cases hd; unfold ad; rw [pk_un (by omega), mvb_hi (tfi_lt hk) hj]
  · split at hd
    · unfold meu at hd
      split at hd
      · cases hd
      · next k hk => cases hd; unfold ad; rw [pk_un (by omega), mvb_hi (tem_lt hk) hj]
    · split at hd
      · unfold mlu at hd
        split at hd
        · cases hd
        · next f hf =>
          split at hd
          · cases hd
          · next t ht => cases hd; unfold ad; rw [pk_un (by omega), mvb_hi (emp_lt ht) hj, mvb_hi (tlo_lt hf) hj]
      · cases hd
theorem pmp_hi {m x : Int32} {j : Nat} (hj : 32 ≤ j) (h1 : j < 157 ∨ 159 < j) : ∀ (r : Nat) (c : FA), pmp m x r c j = c j
  | 0, c => rfl
  | r + 1, c => by
    rw [pmp_1]
    cases hv : mvu m c x with
    | none => rfl
    | some d => exact (pmp_hi hj h1 r d).trans (mvu_hi hv hj h1)
theorem lk_hi {c : FA} {j : Nat} (hj : 24 ≤ j) : ∀ n, n ≤ 8 → lk c n j = c j
  | 0, _ => rfl
  | n + 1, hn => by
    rw [lk_s]
    unfold ad
    rw [pk_un (by omega), pk_un (by omega)]
    exact lk_hi hj n (by omega)
theorem lkm_hi {c : FA} {j : Nat} (hj : 24 ≤ j) : lkm c j = c j := by
  unfold lkm
  split
  · exact lk_hi hj 8 (Nat.le_refl 8)
  · rfl
theorem shl_un {c : FA} {st : Int32} {j : Nat} (hj : j < 115 ∨ (118 ≤ j ∧ j ≠ 161)) : ∀ n, n ≤ 3 → shl c st n j = c j
  | 0, _ => rfl
  | n + 1, hn => by
    unfold shl
    split
    · unfold ad
      rw [pk_un (by omega), pk_un (by omega)]
      exact shl_un hj n (by omega)
    · exact shl_un hj n (by omega)
theorem shf_un {c : FA} {j : Nat} (hj : j < 115 ∨ (118 ≤ j ∧ j ≠ 161)) : shf c j = c j := by
  unfold shf
  split
  · exact shl_un hj 3 (Nat.le_refl 3)
  · rfl
theorem shl_161 {c : FA} {st : Int32} : ∀ n, n ≤ 3 → ∃ k, k ≤ n ∧ shl c st n 161 = c 161 + nI k
  | 0, _ => ⟨0, Nat.le_refl 0, (Int32.add_zero _).symm⟩
  | n + 1, hn => by
    obtain ⟨k, hk, e⟩ := shl_161 (c := c) (st := st) n (by omega)
    unfold shl
    split
    · refine ⟨k + 1, by omega, ?_⟩
      unfold ad
      rw [pk_us, pk_un (by omega), e, ← nI_1, Int32.add_assoc]
    · exact ⟨k, by omega, e⟩
theorem shf_161 (c : FA) : ∃ k, k ≤ 3 ∧ shf c 161 = c 161 + nI k := by
  unfold shf
  split
  · exact shl_161 3 (Nat.le_refl 3)
  · exact ⟨0, by decide, (Int32.add_zero _).symm⟩
theorem mnt_156 (m x : Int32) (r : Nat) (c : FA) : mnt m x r c 156 = c 156 + 1 := by
  unfold mnt
  rw [shf_un (by decide), lkm_hi (by decide), pmp_hi (by decide) (by decide)]
  exact pk_us
theorem mns_156 (m x : Int32) (r : Nat) (c : FA) : ∀ n, mns m x r c n 156 = c 156 + nI n
  | 0 => (Int32.add_zero _).symm
  | n + 1 => by
    show mnt m x r (mns m x r c n) 156 = _
    rw [mnt_156, mns_156 m x r c n, ← nI_1, Int32.add_assoc]
theorem mnt_161 (m x : Int32) (r : Nat) (c : FA) : ∃ k, k ≤ 3 ∧ mnt m x r c 161 = c 161 + nI k := by
  unfold mnt
  obtain ⟨k, hk, e⟩ := shf_161 (lkm (pmp m x r (ad c 156 1)))
  refine ⟨k, hk, e.trans ?_⟩
  rw [lkm_hi (by decide), pmp_hi (by decide) (by decide)]
  rw [show ad c 156 1 161 = c 161 from pk_un (by decide)]
theorem mns_161 (m x : Int32) (r : Nat) (c : FA) : ∀ n, ∃ k, k ≤ 3 * n ∧ mns m x r c n 161 = c 161 + nI k
  | 0 => ⟨0, by decide, (Int32.add_zero _).symm⟩
  | n + 1 => by
    obtain ⟨k, hk, e⟩ := mns_161 m x r c n
    obtain ⟨k2, hk2, e2⟩ := mnt_161 m x r (mns m x r c n)
    refine ⟨k + k2, by omega, ?_⟩
    show mnt m x r (mns m x r c n) 161 = _
    rw [e2, e, ← nI_add, Int32.add_assoc]
/-! with the pump off -/
theorem pmp_off (x : Int32) (r : Nat) (c : FA) : pmp (-1) x r c = c := by
  cases r with
  | zero => rfl
  | succ r => rfl
theorem lk_wl {c : FA} {t : Nat} (ht : t < 8) : ∀ n, n ≤ 8 → lk c n t + lk c n (16 + t) = c t + c (16 + t)
  | 0, _ => rfl
  | n + 1, hn => by
    have ih := lk_wl (c := c) ht n (by omega)
    rw [lk_s]
    generalize lkv c n = v
    generalize lk c n = d at *
    unfold ad
    by_cases e : t = n
    · subst e
      rw [pk_un (by omega), pk_us, pk_us, pk_un (by omega), ← ih]
      grind
    · rw [pk_un (by omega), pk_un e, pk_un (by omega), pk_un (by omega)]
      exact ih
theorem mnt_wl {c : FA} {x : Int32} {r t : Nat} (ht : t < 8) : mnt (-1) x r c t + mnt (-1) x r c (16 + t) = c t + c (16 + t) := by
  unfold mnt
  rw [pmp_off, shf_un (by omega), shf_un (by omega)]
  unfold lkm
  split
  · rw [lk_wl ht 8 (Nat.le_refl 8)]
    unfold ad
    rw [pk_un (by omega), pk_un (by omega)]
  · unfold ad
    rw [pk_un (by omega), pk_un (by omega)]
theorem mns_wl {c : FA} {x : Int32} {r t : Nat} (ht : t < 8) : ∀ n, mns (-1) x r c n t + mns (-1) x r c n (16 + t) = c t + c (16 + t)
  | 0 => rfl
  | n + 1 => by
    show mnt (-1) x r (mns (-1) x r c n) t + mnt (-1) x r (mns (-1) x r c n) (16 + t) = _
    rw [mnt_wl ht, mns_wl ht n]
theorem mns_off_un {c : FA} {x : Int32} {r j : Nat} (hj : 24 ≤ j) (h1 : j < 115 ∨ (118 ≤ j ∧ j ≠ 161 ∧ j ≠ 156)) : ∀ n, mns (-1) x r c n j = c j
  | 0 => rfl
  | n + 1 => by
    show mnt (-1) x r (mns (-1) x r c n) j = _
    unfold mnt
    rw [pmp_off, shf_un (by omega), lkm_hi hj]
    unfold ad
    rw [pk_un (by omega)]
    exact mns_off_un hj h1 n
end
section
/-! ===== what holds between two calls; the row of orders ===== -/
/-- the barge's cells between two calls; B bounds minutes -/
def Gdz (B : Nat) (c : FA) : Prop := Rgz c ∧ Wbz c ∧ (∃ N, RowOk c N) ∧ (∃ M, M ≤ B ∧ c 156 = nI M) ∧ ∃ S, S ≤ 3 * B ∧ c 161 = nI S
theorem Gdz.mono {B B' : Nat} {c : FA} (h : Gdz B c) (hB : B ≤ B') : Gdz B' c := by
  obtain ⟨h1, h2, h3, ⟨M, h4, h5⟩, S, h6, h7⟩ := h
  exact ⟨h1, h2, h3, ⟨M, by omega, h5⟩, S, by omega, h7⟩
theorem RowOk.cg {c d : FA} {N : Nat} (h : RowOk c N) (hd : ∀ j, 131 ≤ j → j < 156 → d j = c j) : RowOk d N := h.congr (fun j h1 h2 => hd j h1 (by omega))
theorem Wbz.cg {c d : FA} (h : Wbz c) (hd : ∀ j, j < 8 ∨ (16 ≤ j ∧ j < 24) ∨ j = 157 ∨ j = 158 → d j = c j) : Wbz d := by
  unfold Wbz at h ⊢
  rw [show pzT d = pzT c from fs_cong 8 (fun k hk => hd k (by omega)), show lostS d = lostS c from fs_cong 8 (fun k hk => hd (16 + k) (by omega)), hd 157 (by omega), hd 158 (by omega)]
  exact h
theorem Gdz.cg {B : Nat} {c d : FA} (h : Gdz B c) (hd : ∀ j, j < 162 → d j = c j) : Gdz B d := by
  obtain ⟨h1, h2, ⟨N, h3⟩, ⟨M, h4, h5⟩, S, h6, h7⟩ := h
  exact ⟨h1.low (fun j hj _ => hd j (by omega)), h2.cg (fun j hj => hd j (by omega)), ⟨N, h3.cg (fun j h1 h2 => hd j (by omega))⟩, ⟨M, h4, (hd 156 (by decide)).trans h5⟩, S, h6, (hd 161 (by decide)).trans h7⟩
theorem Gdz.rate {B : Nat} {c : FA} (h : Gdz B c) : ∃ r, r ≤ 9 ∧ c 128 = nI r := by
  have h1 := h.1.q1
  obtain ⟨k, e1, e2, e3⟩ := pzK (a := c 128) (by omega)
  exact ⟨k, by omega, e1⟩
/-- the row alone is another -/
theorem Gdz.row {B N : Nat} {c d : FA} (h : Gdz B c) (hd : ∀ j, j < 131 ∨ 155 < j → d j = c j) (hN : RowOk d N) : Gdz B d := by
  obtain ⟨h1, h2, -, ⟨M, h4, h5⟩, S, h6, h7⟩ := h
  exact ⟨h1.low (fun j hj _ => hd j (by omega)), h2.cg (fun j hj => hd j (by omega)), ⟨N, hN⟩, ⟨M, h4, (hd 156 (by decide)).trans h5⟩, S, h6, (hd 161 (by decide)).trans h7⟩
abbrev PZ9 : Type := List (Int32 × Int32)
def lC (c : FA) (n : Nat) : PZ9 := (List.range n).map (fun p => (c (131 + p), c (143 + p)))
theorem lC_s (c : FA) (n : Nat) : lC c (n + 1) = lC c n ++ [(c (131 + n), c (143 + n))] := by
  unfold lC; rw [List.range_succ, List.map_append]; rfl
theorem lC_congr {c d : FA} : ∀ {n : Nat}, (∀ p, p < n → d (131 + p) = c (131 + p) ∧ d (143 + p) = c (143 + p)) → lC d n = lC c n
  | 0, _ => rfl
  | n + 1, h => by rw [lC_s, lC_s, lC_congr (fun p hp => h p (by omega)), (h n (by omega)).1, (h n (by omega)).2]
theorem lC_get {c : FA} {n p : Nat} (hp : p < n) : (lC c n)[p]? = some (c (131 + p), c (143 + p)) := by
  simp [lC, List.getElem?_range hp]
def GdR (x : Int32 × Int32) : Prop := ∃ k b : Nat, x.1 = nI k ∧ x.2 = nI b ∧ k < 5 ∧ (k < 2 → b < 5) ∧ (2 ≤ k → 1 ≤ b) ∧ b ≤ 60
theorem rowok_l {c : FA} {N : Nat} (h1 : c 155 = nI N) (h2 : N ≤ 12) (h3 : ∀ x ∈ lC c N, GdR x) : RowOk c N := by
  refine ⟨h1, h2, fun p hp => ?_⟩
  exact h3 (c (131 + p), c (143 + p)) (List.mem_of_getElem? (lC_get hp))
theorem rowok_m {c : FA} {N : Nat} (h : RowOk c N) : ∀ x ∈ lC c N, GdR x := by
  intro x hx
  unfold lC at hx
  obtain ⟨p, hp, rfl⟩ := List.mem_map.mp hx
  exact h.2.2 p (List.mem_range.mp hp)
abbrev nkz (k : Int32) (x : Int32 × Int32) : Bool := decide (¬ x.1 = k)
theorem stk_l (c : FA) (k : Int32) : ∀ n, n ≤ 12 → lC (stk c k n).1 (stk c k n).2 = (lC c n).filter (nkz k) ∧ (∀ j, j < 131 ∨ 155 ≤ j → (stk c k n).1 j = c j) ∧ ∀ p, n ≤ p → p < 12 → (stk c k n).1 (131 + p) = c (131 + p) ∧ (stk c k n).1 (143 + p) = c (143 + p)
  | 0, _ => ⟨rfl, fun _ _ => rfl, fun _ _ _ => ⟨rfl, rfl⟩⟩
  | n + 1, hn => by
    obtain ⟨i1, i2, i3⟩ := stk_l c k n (by omega)
    have hle := stk_le c k n
    obtain ⟨e1, e2⟩ := i3 n (Nat.le_refl n) (by omega)
    by_cases q : c (131 + n) = k
    · have ee : stk c k (n + 1) = stk c k n := if_pos (e1.trans q)
      rw [ee, lC_s, List.filter_append, i1]
      refine ⟨?_, i2, fun p h1 h2 => i3 p (by omega) h2⟩
      rw [show List.filter (nkz k) [(c (131 + n), c (143 + n))] = [] by simp [nkz, q], List.append_nil]
    · have ee : stk c k (n + 1) = (pat (stk c k n).1 (stk c k n).2 (c (131 + n)) (c (143 + n)), (stk c k n).2 + 1) := by
        rw [← e1, ← e2]
        exact if_neg (fun q2 => q (e1.symm.trans q2))
      rw [ee, lC_s, lC_s, List.filter_append, ← i1]
      dsimp only
      generalize hS : stk c k n = S at *
      obtain ⟨d, m⟩ := S
      dsimp only at *
      have p1 : pat d m (c (131 + n)) (c (143 + n)) (131 + m) = c (131 + n) := by unfold pat; rw [pk_un (by omega), pk_us]
      have p2 : pat d m (c (131 + n)) (c (143 + n)) (143 + m) = c (143 + n) := by unfold pat; rw [pk_us]
      refine ⟨?_, fun j hj => ?_, fun p h1 h2 => ?_⟩
      · rw [p1, p2, show List.filter (nkz k) [(c (131 + n), c (143 + n))] = [(c (131 + n), c (143 + n))] by simp [nkz, q]]
        congr 1
        refine lC_congr (fun p hp => ?_)
        unfold pat
        exact ⟨by rw [pk_un (by omega), pk_un (by omega)], by rw [pk_un (by omega), pk_un (by omega)]⟩
      · unfold pat
        rw [pk_un (by omega), pk_un (by omega)]
        exact i2 j hj
      · unfold pat
        rw [pk_un (by omega), pk_un (by omega), pk_un (by omega), pk_un (by omega)]
        exact i3 p (by omega) h2
theorem rowok_st {c : FA} {k : Int32} {N : Nat} (h : RowOk c N) : RowOk (upd (stk c k N).1 155 (nI (stk c k N).2)) (stk c k N).2 := by
  have hN := h.2.1
  have hle := stk_le c k N
  obtain ⟨i1, -, -⟩ := stk_l c k N hN
  refine rowok_l pk_us (by omega) (fun x hx => ?_)
  rw [lC_congr (c := (stk c k N).1) (fun p hp => ⟨pk_un (by omega), pk_un (by omega)⟩), i1] at hx
  exact rowok_m h x (List.mem_filter.mp hx).1
theorem rowok_wt {c : FA} {N k b : Nat} (h : RowOk c N) (hN : N < 12) (hg : k < 5 ∧ (k < 2 → b < 5) ∧ (2 ≤ k → 1 ≤ b) ∧ b ≤ 60) : RowOk (upd (pat c N (nI k) (nI b)) 155 (nI N + 1)) (N + 1) := by
  refine ⟨by rw [pk_us, nI_1], by omega, fun p hp => ?_⟩
  rw [pk_un (by omega), pk_un (by omega)]
  unfold pat
  by_cases e : p = N
  · subst e
    exact ⟨k, b, by rw [pk_un (by omega), pk_us], by rw [pk_us], hg⟩
  · obtain ⟨k2, b2, e1, e2, e3⟩ := h.2.2 p (by omega)
    exact ⟨k2, b2, by rw [pk_un (by omega), pk_un (by omega)]; exact e1, by rw [pk_un (by omega), pk_un (by omega)]; exact e2, e3⟩
end
section
/-! ===== what each act keeps ===== -/
theorem lmo_bd {c : FA} (h : Rgz c) : -5900 ≤ (lmo c).toInt ∧ (lmo c).toInt ≤ 5900 := by
  have h1 : ∀ t, t < 8 → -400 ≤ (c t * sidA (t % 2)).toInt ∧ (c t * sidA (t % 2)).toInt ≤ 400 := by
    intro t ht
    have hw := h.w ht
    have e : (sidA (t % 2)).toInt = 4 ∨ (sidA (t % 2)).toInt = -4 := by
      rcases (show t % 2 = 0 ∨ t % 2 = 1 by omega) with e | e
      · rw [e]; exact Or.inr rfl
      · rw [e]; exact Or.inl rfl
    rcases e with e | e
    · rw [pzM (by rw [e]; omega) (by rw [e]; omega), e]; omega
    · rw [pzM (by rw [e]; omega) (by rw [e]; omega), e]; omega
  have h2 : ∀ k, k < 3 → -900 ≤ (c (112 + k) * c (115 + k)).toInt ∧ (c (112 + k) * c (115 + k)).toInt ≤ 900 := by
    intro k hk
    have hl := h.l hk
    have hf := h.f hk
    have e : (c (115 + k)).toInt = -3 ∨ (c (115 + k)).toInt = -2 ∨ (c (115 + k)).toInt = -1 ∨ (c (115 + k)).toInt = 0 ∨ (c (115 + k)).toInt = 1 ∨ (c (115 + k)).toInt = 2 ∨ (c (115 + k)).toInt = 3 := by omega
    rcases e with e | e | e | e | e | e | e
    all_goals
      rw [pzM (by rw [e]; omega) (by rw [e]; omega), e]; omega
  have i0 : (0 : Int32).toInt = 0 := rfl
  have b1 := fs_bd (a := 0) (f := fun t => c t * sidA (t % 2)) (lo := -400) (hi := 400) (by omega) (by omega) 8 h1 (by rw [i0]; omega) (by rw [i0]; omega)
  rw [i0] at b1
  have b2 := fs_bd (a := fs 0 (fun t => c t * sidA (t % 2)) 8) (f := fun h => c (112 + h) * c (115 + h)) (lo := -900) (hi := 900) (by omega) (by omega) 3 h2 (by omega) (by omega)
  unfold lmo
  omega
theorem wgt_pos {c : FA} (h : Rgz c) : ¬ wgt c ≤ 0 := by
  have := wgt_bd h
  rw [Int32.le_iff_toInt_le, show (0 : Int32).toInt = 0 from rfl]
  omega
theorem wgt_ne {c : FA} (h : Rgz c) : ¬ wgt c = 0 := fun e => wgt_pos h (by rw [e]; exact Int32.le_refl _)
theorem tdiv_lo {x w : Int} (h1 : -59000 ≤ x) (h2 : x ≤ 59000) (hw : 59 < w) : -1000 ≤ x.tdiv w ∧ x.tdiv w ≤ 1000 := by
  by_cases z : 0 ≤ x
  · rw [Int.tdiv_eq_ediv_of_nonneg z]
    have a1 := Int.ediv_nonneg z (show 0 ≤ w by omega)
    have a2 : x / w < 1001 := Int.ediv_lt_of_lt_mul (by omega) (by omega)
    omega
  · have e : x.tdiv w = -((-x).tdiv w) := by rw [Int.neg_tdiv, Int.neg_neg]
    rw [e, Int.tdiv_eq_ediv_of_nonneg (show 0 ≤ -x by omega)]
    have a1 := Int.ediv_nonneg (show 0 ≤ -x by omega) (show 0 ≤ w by omega)
    have a2 : -x / w < 1001 := Int.ediv_lt_of_lt_mul (by omega) (by omega)
    omega
theorem lof_bd {m w : Int32} (h1 : -5900 ≤ m.toInt) (h2 : m.toInt ≤ 5900) (hw : 59 < w.toInt) : -1000 ≤ (lof m w).toInt ∧ (lof m w).toInt ≤ 1000 := by
  unfold lof
  rw [if_neg (by rw [Int32.le_iff_toInt_le, show (0 : Int32).toInt = 0 from rfl]; omega)]
  have e : (10 * m).toInt = 10 * m.toInt := by rw [pzM (by rw [show (10 : Int32).toInt = 10 from rfl]; omega) (by rw [show (10 : Int32).toInt = 10 from rfl]; omega)]; rfl
  rw [pzD (by intro q; rw [q] at hw; exact absurd hw (by decide)), e]
  exact tdiv_lo (by omega) (by omega) hw
theorem lst_bd {c : FA} (h : Rgz c) : -1000 ≤ (lst c).toInt ∧ (lst c).toInt ≤ 1000 := by
  have h1 := lmo_bd h
  have h2 := wgt_bd h
  exact lof_bd h1.1 h1.2 (by omega)
/-- an act's answer is no refusal of its arguments, and the cells behind it are well -/
def AOz (B : Nat) (c : FA) (S : Int32 × Option FA) : Prop := (-1000 ≤ S.1.toInt ∨ S.1 = -1003 ∨ S.1 = -1004 ∨ S.1 = -1005) ∧ ∀ d, S.2 = some d → Gdz (B + 720) d ∧ ∃ k l : Nat, k ≤ 720 ∧ l ≤ 2160 ∧ d 156 = c 156 + nI k ∧ d 161 = c 161 + nI l
theorem Gdz.up {B : Nat} {c : FA} (h : Gdz B c) {j : Nat} {v : Int32} (h8 : 8 ≤ j) (h1 : j < 131) (h2 : j < 16 ∨ 24 ≤ j) (hv : (pzR j).1 ≤ v.toInt ∧ v.toInt ≤ (pzR j).2) : Gdz B (upd c j v) := by
  obtain ⟨g1, g2, ⟨N, g3⟩, ⟨M, g4, g5⟩, S, g6, g7⟩ := h
  exact ⟨g1.up hv, g2.cg (fun i hi => pk_un (by omega)), ⟨N, g3.cg (fun i a1 a2 => pk_un (by omega))⟩, ⟨M, g4, (pk_un (by omega)).trans g5⟩, S, g6, (pk_un (by omega)).trans g7⟩
theorem AOz.same {B : Nat} {c : FA} {v : Int32} {d : FA} (hv : -1000 ≤ v.toInt) (hd : Gdz B d) (e1 : d 156 = c 156) (e2 : d 161 = c 161) : AOz B c (v, some d) := by
  refine ⟨Or.inl hv, fun d' e => ?_⟩
  cases e
  exact ⟨hd.mono (by omega), 0, 0, by decide, by decide, e1.trans (Int32.add_zero _).symm, e2.trans (Int32.add_zero _).symm⟩
theorem AOz.none {B : Nat} {c : FA} {v : Int32} (hv : -1000 ≤ v.toInt ∨ v = -1003 ∨ v = -1004 ∨ v = -1005) : AOz B c (v, none) := ⟨hv, fun d e => by cases e⟩
theorem chg_A {B : Nat} {c : FA} (h : Gdz B c) {j : Nat} {v : Int32} (h8 : 8 ≤ j) (h1 : j < 131) (h2 : j < 16 ∨ 24 ≤ j) (hv : (pzR j).1 ≤ v.toInt ∧ v.toInt ≤ (pzR j).2) (ho : -1000 ≤ (c j).toInt) : AOz B c (chg c j v) := by
  unfold chg
  split
  · exact AOz.none (Or.inr (Or.inr (Or.inr rfl)))
  · exact AOz.same ho (h.up h8 h1 h2 hv) (pk_un (by omega)) (pk_un (by omega))
theorem pzle {a b : Int32} (h : a ≤ b) : a.toInt ≤ b.toInt := Int32.le_iff_toInt_le.mp h
theorem lek_A {B : Nat} {c : FA} (h : Gdz B c) {t l : Int32} (h1 : 0 ≤ t ∧ t ≤ 7) (h2 : 0 ≤ l ∧ l ≤ 9) : AOz B c (lek c t l) := by
  obtain ⟨j, hj, rfl⟩ := rng (n := 7) rfl (by decide) h1
  have ej : ix (nI j) = j := ix_nI (by omega)
  unfold lek
  rw [if_neg (fun q => q h1), if_neg (fun q => q h2), ej]
  have b := h.1.k (show j < 8 by omega)
  refine chg_A h (by omega) (by omega) (by omega) ?_ (by omega)
  rw [pzR_8 (by omega)]
  exact ⟨pzle h2.1, pzle h2.2⟩
theorem sgr_A {B : Nat} {c : FA} (h : Gdz B c) {g x : Int32} (h1 : 0 ≤ g ∧ g ≤ 4) (h2 : 1 ≤ x ∧ x ≤ 255) : AOz B c (sgr c g x) := by
  obtain ⟨j, hj, rfl⟩ := rng (n := 4) rfl (by decide) h1
  have ej : ix (nI j) = j := ix_nI (by omega)
  unfold sgr
  rw [if_neg (fun q => q h1), if_neg (fun q => q h2), ej]
  have b := h.1.g (show j < 5 by omega)
  refine chg_A h (by omega) (by omega) (by omega) ?_ (by omega)
  rw [pzR_118 (by omega)]
  exact ⟨pzle h2.1, pzle h2.2⟩
theorem stt_A {B : Nat} {c : FA} (h : Gdz B c) {j : Nat} {v : Int32} (hj : j < 3) (h2 : leS j ≤ v ∧ v ≤ moS j) : AOz B c (stt c (nI j) v) := by
  have ej : ix (nI j) = j := ix_nI (by omega)
  have h1 : 0 ≤ nI j ∧ nI j ≤ 2 := by
    match j, hj with
    | 0, _ => decide
    | 1, _ => decide
    | 2, _ => decide
    | j + 3, q => exact absurd q (by omega)
  unfold stt
  rw [ej, if_neg (fun q => q.elim (fun q => q h1) (fun q => q h2))]
  have a1 := pzle h2.1
  have a2 := pzle h2.2
  match j, hj, a1, a2 with
  | 0, _, a1, a2 => exact chg_A h (by decide) (by decide) (by decide) ⟨a1, a2⟩ (by have := h.1.q1; show -1000 ≤ (c 128).toInt; omega)
  | 1, _, a1, a2 => exact chg_A h (by decide) (by decide) (by decide) ⟨a1, a2⟩ (by have := h.1.q2; show -1000 ≤ (c 129).toInt; omega)
  | 2, _, a1, a2 => exact chg_A h (by decide) (by decide) (by decide) ⟨a1, a2⟩ (by have := h.1.q3; show -1000 ≤ (c 130).toInt; omega)
  | j + 3, q, _, _ => exact absurd q (by omega)
theorem lod_A {B : Nat} {c : FA} (h : Gdz B c) {k l s : Int32} (h1 : 0 ≤ k ∧ k ≤ 2) (h2 : 0 ≤ l ∧ l ≤ 300) (h3 : -3 ≤ s ∧ s ≤ 3) : AOz B c (lod c k l s) := by
  obtain ⟨j, hj, rfl⟩ := rng (n := 2) rfl (by decide) h1
  have ej : ix (nI j) = j := ix_nI (by omega)
  unfold lod
  rw [if_neg (fun q => q h1), if_neg (fun q => q.elim (fun q => q h2) (fun q => q h3)), ej]
  have a1 := pzle h2.1
  have a2 := pzle h2.2
  rw [show (0 : Int32).toInt = 0 from rfl] at a1
  rw [show (300 : Int32).toInt = 300 from rfl] at a2
  split
  · exact AOz.none (Or.inr (Or.inr (Or.inl rfl)))
  · split
    · exact AOz.none (Or.inr (Or.inr (Or.inr rfl)))
    · have b := h.1.l (show j < 3 by omega)
      have w := wgt_bd h.1
      refine AOz.same ?_ ((h.up (j := 112 + j) (by omega) (by omega) (by omega) ?_).up (j := 115 + j) (by omega) (by omega) (by omega) ?_) ?_ ?_
      · have e1 : (wgt c - c (112 + j)).toInt = (wgt c).toInt - (c (112 + j)).toInt := pzS (by omega) (by omega)
        have e2 : (wgt c - c (112 + j) + l).toInt = (wgt c).toInt - (c (112 + j)).toInt + l.toInt := by rw [pzA (by omega) (by omega), e1]
        rw [pzD (by decide), e2, show (10 : Int32).toInt = 10 from rfl, Int.tdiv_eq_ediv_of_nonneg (by omega)]
        omega
      · rw [pzR_112 (by omega)]; exact ⟨a1, a2⟩
      · rw [pzR_115 (by omega)]; exact ⟨pzle h3.1, pzle h3.2⟩
      · rw [pk_un (by omega), pk_un (by omega)]
      · rw [pk_un (by omega), pk_un (by omega)]
theorem ord_A {B N k b : Nat} {c : FA} (h : Gdz B c) (hN : RowOk c N) (hg : k < 5 ∧ (k < 2 → b < 5) ∧ (2 ≤ k → 1 ≤ b) ∧ b ≤ 60) : AOz B c (ord c (nI k) (nI b) N) := by
  unfold ord
  split
  · exact AOz.none (Or.inr (Or.inl rfl))
  · next z =>
    refine AOz.same ?_ (h.row (fun j hj => ?_) (rowok_wt hN (by omega) hg)) ?_ ?_
    · rw [nI_1, nI_toInt (by omega)]; omega
    · unfold pat; rw [pk_un (by omega), pk_un (by omega), pk_un (by omega)]
    · unfold pat; rw [pk_un (by omega), pk_un (by omega), pk_un (by omega)]
    · unfold pat; rw [pk_un (by omega), pk_un (by omega), pk_un (by omega)]
theorem stq_A {B N : Nat} {c : FA} (h : Gdz B c) (hN : RowOk c N) {k : Int32} (hk : 0 ≤ k ∧ k ≤ 4) : AOz B c (stq c k N) := by
  have h12 := hN.2.1
  have hle := stk_le c k N
  have hj := (stk_l c k N h12).2.1
  unfold stq
  rw [if_neg (fun q => q hk)]
  split
  · exact AOz.none (Or.inr (Or.inr (Or.inr rfl)))
  · refine AOz.same ?_ (h.row (fun j hq => ?_) (rowok_st hN)) ?_ ?_
    · rw [nI_sub hle, nI_toInt (by omega)]; omega
    · rw [pk_un (by omega)]; exact hj j (by omega)
    · rw [pk_un (by omega)]; exact hj 156 (by omega)
    · rw [pk_un (by omega)]; exact hj 161 (by omega)
theorem mns_G {B : Nat} {c : FA} (h : Gdz B c) {m x : Int32} {r : Nat} (n : Nat) : Gdz (B + n) (mns m x r c n) := by
  obtain ⟨g1, g2, ⟨N, g3⟩, ⟨M, g4, g5⟩, S, g6, g7⟩ := h
  have J := mns_J (m := m) (x := x) (r := r) g1 n
  obtain ⟨k, hk, e⟩ := mns_161 m x r c n
  refine ⟨J.1, J.2.1 g2, ⟨N, g3.cg (fun j h1 h2 => mns_fx (by unfold fx; omega) n)⟩, ⟨M + n, by omega, ?_⟩, S + k, by omega, ?_⟩
  · rw [mns_156, g5, nI_add]
  · rw [e, g7, nI_add]
theorem pas_A {B r : Nat} {c : FA} (h : Gdz B c) {m : Int32} (hm : 1 ≤ m ∧ m ≤ 200) : AOz B c (pas c m r) := by
  obtain ⟨j, hj, rfl⟩ := rng (n := 200) rfl (by decide) ⟨Int32.le_trans (by decide) hm.1, hm.2⟩
  have ej : ix (nI j) = j := ix_nI (by omega)
  unfold pas
  rw [if_neg (fun q => q hm), ej]
  have G := mns_G h (m := -1) (x := opn c 5) (r := r) j
  obtain ⟨k, hk, e⟩ := mns_161 (-1) (opn c 5) r c j
  refine ⟨Or.inl (lst_bd G.1).1, fun d q => ?_⟩
  cases q
  exact ⟨G.mono (by omega), j, k, by omega, by omega, mns_156 _ _ _ _ j, e⟩
end
section
/-! ===== orders worked off; soundings ===== -/
theorem emp_cg {c d : FA} {x : Int32} : ∀ n, (∀ j, j < n → d j = c j) → emp d x n = emp c x n
  | 0, _ => rfl
  | n + 1, h => by
    have ih := emp_cg (x := x) n (fun j hj => h j (by omega))
    unfold emp
    rw [ih]
    cases e : emp c x n with
    | none => rfl
    | some k =>
      have hk := emp_lt e
      dsimp only
      rw [h k (by omega), h n (by omega)]
theorem ful_cg {c d : FA} {x : Int32} : ∀ n, (∀ j, j < n → d j = c j) → ful d x n = ful c x n
  | 0, _ => rfl
  | n + 1, h => by
    have ih := ful_cg (x := x) n (fun j hj => h j (by omega))
    unfold ful
    rw [ih]
    cases e : ful c x n with
    | none => rfl
    | some k =>
      have hk := ful_lt e
      dsimp only
      rw [h k (by omega), h n (by omega)]
theorem opn_cg {c d : FA} : ∀ n, n ≤ 5 → (∀ j, 118 ≤ j → j < 128 → d j = c j) → opn d n = opn c n
  | 0, _, _ => rfl
  | n + 1, hn, h => by
    unfold opn
    rw [opn_cg n (by omega) h, h (123 + n) (by omega) (by omega), h (118 + n) (by omega) (by omega)]
theorem wgt_cg {c d : FA} (h : ∀ j, j < 131 → d j = c j) : wgt d = wgt c := by
  rw [wgt_pz, wgt_pz, show pzT d = pzT c from fs_cong 8 (fun k hk => h k (by omega)), show pzL d = pzL c from fs_cong 3 (fun k hk => h (112 + k) (by omega))]
theorem rsn_cg {c d : FA} {k b : Nat} (hb : k < 2 → b < 5) (h : ∀ j, j < 131 → d j = c j) : rsn d k b = rsn c k b := by
  have e1 := opn_cg (c := c) (d := d) 5 (by decide) (fun j _ hj => h j (by omega))
  have e2 : ∀ x, emp d x 8 = emp c x 8 := fun x => emp_cg 8 (fun j hj => h j (by omega))
  have e3 : ∀ x, ful d x 8 = ful c x 8 := fun x => ful_cg 8 (fun j hj => h j (by omega))
  have t1 : ∀ x, tfi d x = tfi c x := by
    intro x
    unfold tfi
    rw [e2]
    cases e : emp c x 8 with
    | none => rfl
    | some i =>
      have := emp_lt e
      dsimp only
      rw [h i (by omega), wgt_cg h, h 130 (by decide)]
  have t2 : ∀ x, tem d x = tem c x := by
    intro x
    unfold tem
    rw [e3]
    cases e : ful c x 8 with
    | none => rfl
    | some i =>
      have := ful_lt e
      dsimp only
      rw [h i (by omega)]
  have t3 : ∀ x, tlo d x = tlo c x := by
    intro x
    unfold tlo
    rw [e3, e2]
    cases e : ful c x 8 with
    | none => rfl
    | some i =>
      have := ful_lt e
      cases f : emp c x 8 with
      | none => rfl
      | some t =>
        have := emp_lt f
        dsimp only
        rw [h i (by omega), h t (by omega)]
  unfold rsn
  by_cases hk : k < 2
  · rw [if_pos hk, if_pos hk, h (123 + b) (by have := hb hk; omega)]
  · rw [if_neg hk, if_neg hk, e1, t1, t2, t3]
theorem rsn_bd (c : FA) (k b : Nat) : 0 ≤ (rsn c k b).toInt ∧ (rsn c k b).toInt ≤ 5 := by
  unfold rsn
  repeat' split
  all_goals decide
/-- the first order is worked off: what is so behind it -/
theorem wof_A {B N k b r : Nat} {c : FA} (h : Gdz B c) (hR : RowOk c N) (h0 : 0 < N) (hk : k < 5) (hb : k < 2 → b < 5) (h6 : b ≤ 60) :
    Gdz (B + 60) (wof c N k b r) ∧ RowOk (wof c N k b r) (N - 1) ∧ wof c N k b r 156 = c 156 + (if rsn c k b = 0 ∧ 2 ≤ k then nI b else 0) ∧ (∃ l, l ≤ 180 ∧ wof c N k b r 161 = c 161 + nI l) ∧ wof c N k b r 160 = c 160 + (if rsn c k b = 0 then 0 else 1) ∧ (k < 2 → wof c N k b r (123 + b) = if k = 0 then 1 else 0) ∧ (k = 4 → pzT (wof c N k b r) + lostS (wof c N k b r) = pzT c + lostS c) ∧ (k = 2 → dpz c → dpz (wof c N k b r)) := by
  have hN := hR.2.1
  have hw : ∀ j, j < 131 ∨ 155 < j → tko c N j = c j := fun j hj => tko_fx hN hj
  have t := rowok_tko hR h0
  have ht : Gdz B (tko c N) := h.row hw t
  have eT : pzT (tko c N) = pzT c := fs_cong 8 (fun k hk => hw k (by omega))
  have eS : lostS (tko c N) = lostS c := fs_cong 8 (fun k hk => hw (16 + k) (by omega))
  have eR : rsn (tko c N) k b = rsn c k b := rsn_cg hb (fun j hj => hw j (by omega))
  have e0 : (0 : Int32) = nI 0 := rfl
  have hz : ∀ v : Int32, v = v + nI 0 := fun v => (Int32.add_zero v).symm
  have hd : dpz c → dpz (tko c N) := by
    unfold dpz
    rw [wgt_cg (c := c) (d := tko c N) (fun j hj => hw j (by omega)), hw 130 (by decide)]
    exact fun q => q
  unfold wof
  rw [eR]
  generalize tko c N = d at *
  by_cases z : rsn c k b = 0
  · rw [if_pos z]
    by_cases z2 : k < 2
    · have hb5 := hb z2
      have hv : (if k = 0 then (1 : Int32) else 0).toInt = 0 ∨ (if k = 0 then (1 : Int32) else 0).toInt = 1 := by split <;> decide
      rw [if_pos z2, if_neg (show ¬ (rsn c k b = 0 ∧ 2 ≤ k) from fun q => by have := q.2; omega), if_pos z]
      refine ⟨(ht.up (by omega) (by omega) (by omega) ?_).mono (by omega), t.cg (fun j h1 h2 => pk_un (by omega)), ?_, ⟨0, by decide, ?_⟩, ?_, fun _ => pk_us, fun q => by omega, fun q => by omega⟩
      · rw [pzR_123 hb5]; show 0 ≤ Int32.toInt _ ∧ Int32.toInt _ ≤ 1; omega
      · rw [pk_un (by omega), hw 156 (by omega)]; exact hz _
      · rw [pk_un (by omega), hw 161 (by omega)]; exact hz _
      · rw [pk_un (by omega), hw 160 (by omega)]; exact hz _
    · rw [if_neg z2, if_pos (show rsn c k b = 0 ∧ 2 ≤ k from ⟨z, by omega⟩), if_pos z]
      have G := mns_G ht (m := nI k) (x := opn d 5) (r := r) b
      have J := mns_J (m := nI k) (x := opn d 5) (r := r) ht.1 b
      obtain ⟨l, hl, e⟩ := mns_161 (nI k) (opn d 5) r d b
      refine ⟨G.mono (by omega), t.cg (fun j h1 h2 => mns_fx (by unfold fx; omega) b), ?_, ⟨l, by omega, ?_⟩, ?_, fun q => absurd q z2, fun q => ?_, fun q w => ?_⟩
      · rw [mns_156, hw 156 (by omega)]
      · rw [e, hw 161 (by omega)]
      · rw [mns_fx (by unfold fx; omega) b, hw 160 (by omega)]; exact hz _
      · rw [← eT, ← eS]; exact J.2.2.1 (by subst q; rfl)
      · exact J.2.2.2 (by subst q; rfl) (hd w)
  · rw [if_neg z, if_neg (show ¬ (rsn c k b = 0 ∧ 2 ≤ k) from fun q => z q.1), if_neg z]
    have hu : ∀ j, j ≠ 160 → ad d 160 1 j = d j := fun j hj => pk_un hj
    have hG : Gdz B (ad d 160 1) := by
      obtain ⟨g1, g2, ⟨N', g3⟩, ⟨M, g4, g5⟩, S, g6, g7⟩ := ht
      exact ⟨g1.fr (by unfold pzF; omega), g2.cg (fun i hi => hu i (by omega)), ⟨N', g3.cg (fun i a1 a2 => hu i (by omega))⟩, ⟨M, g4, (hu 156 (by omega)).trans g5⟩, S, g6, (hu 161 (by omega)).trans g7⟩
    refine ⟨hG.mono (by omega), t.cg (fun j h1 h2 => hu j (by omega)), ?_, ⟨0, by decide, ?_⟩, ?_, fun q => ?_, fun q => ?_, fun q w => ?_⟩
    · rw [hu 156 (by decide), hw 156 (by omega)]; exact hz _
    · rw [hu 161 (by decide), hw 161 (by omega)]; exact hz _
    · unfold ad; rw [pk_us, hw 160 (by omega)]
    · have hb5 := hb q
      rw [hu _ (by omega), hw _ (by omega)]
      unfold rsn at z
      rw [if_pos q] at z
      by_cases y : c (123 + b) = if k = 0 then 1 else 0
      · exact y
      · rw [if_neg y] at z; exact absurd rfl z
    · rw [show pzT (ad d 160 1) = pzT d from fs_cong 8 (fun k hk => hu k (by omega)), show lostS (ad d 160 1) = lostS d from fs_cong 8 (fun k hk => hu (16 + k) (by omega)), eT, eS]
    · have := hd w
      unfold dpz at this ⊢
      rw [wgt_cg (c := d) (fun j hj => hu j (by omega)), hu 130 (by decide)]
      exact this
theorem wf_A {B N : Nat} {c : FA} (h : Gdz B c) (hR : RowOk c N) : Gdz (B + 60) (wf c) ∧ RowOk (wf c) (N - 1) ∧ (∃ i, i ≤ 60 ∧ wf c 156 = c 156 + nI i) ∧ (∃ l, l ≤ 180 ∧ wf c 161 = c 161 + nI l) ∧ ∃ v, v ≤ 1 ∧ wf c 160 = c 160 + nI v := by
  have hN := hR.2.1
  have hz : ∀ v : Int32, v = v + nI 0 := fun v => (Int32.add_zero v).symm
  have n1 : ix (c 155) = N := by rw [hR.1]; exact ix_nI (by omega)
  unfold wf
  rw [n1]
  by_cases z : N = 0
  · rw [if_pos z]
    exact ⟨h.mono (by omega), by rw [show N - 1 = N by omega]; exact hR, ⟨0, by decide, hz _⟩, ⟨0, by decide, hz _⟩, 0, by decide, hz _⟩
  · rw [if_neg z]
    obtain ⟨k, b, e1, e2, e3, e4, e5, e6⟩ := hR.2.2 0 (by omega)
    have n2 : ix (c 131) = k := by rw [show c 131 = nI k from e1]; exact ix_nI (by omega)
    have n3 : ix (c 143) = b := by rw [show c 143 = nI b from e2]; exact ix_nI (by omega)
    rw [n2, n3]
    obtain ⟨a1, a2, a3, a4, a5, -⟩ := wof_A (r := ix (c 128)) h hR (by omega) e3 e4 e6
    refine ⟨a1, a2, ?_, a4, ?_⟩
    · by_cases y : rsn c k b = 0 ∧ 2 ≤ k
      · rw [if_pos y] at a3; exact ⟨b, e6, a3⟩
      · rw [if_neg y] at a3; exact ⟨0, by decide, a3⟩
    · by_cases y : rsn c k b = 0
      · rw [if_pos y] at a5; exact ⟨0, by decide, a5⟩
      · rw [if_neg y] at a5; exact ⟨1, by decide, a5⟩
theorem wfs_A {B N : Nat} {c : FA} (h : Gdz B c) (hR : RowOk c N) : ∀ n, Gdz (B + 60 * n) (wfs c n) ∧ RowOk (wfs c n) (N - n) ∧ (∃ i, i ≤ 60 * n ∧ wfs c n 156 = c 156 + nI i) ∧ (∃ l, l ≤ 180 * n ∧ wfs c n 161 = c 161 + nI l) ∧ ∃ v, v ≤ n ∧ wfs c n 160 = c 160 + nI v
  | 0 => ⟨h.mono (by omega), hR, ⟨0, by decide, (Int32.add_zero _).symm⟩, ⟨0, by decide, (Int32.add_zero _).symm⟩, 0, by decide, (Int32.add_zero _).symm⟩
  | n + 1 => by
    obtain ⟨a1, a2, ⟨i, a3, a4⟩, ⟨l, a5, a6⟩, v, a7, a8⟩ := wfs_A h hR n
    obtain ⟨b1, b2, ⟨i2, b3, b4⟩, ⟨l2, b5, b6⟩, v2, b7, b8⟩ := wf_A a1 a2
    refine ⟨b1.mono (by omega), by rw [show N - (n + 1) = N - n - 1 by omega]; exact b2, ⟨i + i2, by omega, ?_⟩, ⟨l + l2, by omega, ?_⟩, v + v2, by omega, ?_⟩
    · show wf (wfs c n) 156 = _; rw [b4, a4, Int32.add_assoc, nI_add]
    · show wf (wfs c n) 161 = _; rw [b6, a6, Int32.add_assoc, nI_add]
    · show wf (wfs c n) 160 = _; rw [b8, a8, Int32.add_assoc, nI_add]
theorem wrk_A {B N : Nat} {c : FA} (h : Gdz B c) (hR : RowOk c N) {o : Int32} (ho : 1 ≤ o ∧ o ≤ 12) : AOz B c (wrk c o) := by
  obtain ⟨j, hj, rfl⟩ := rng (n := 12) rfl (by decide) ⟨Int32.le_trans (by decide) ho.1, ho.2⟩
  have ej : ix (nI j) = j := ix_nI (by omega)
  unfold wrk
  rw [if_neg (fun q => q ho), ej]
  split
  · exact AOz.none (Or.inr (Or.inr (Or.inr rfl)))
  · obtain ⟨a1, a2, ⟨i, a3, a4⟩, ⟨l, a5, a6⟩, v, a7, a8⟩ := wfs_A h hR j
    refine ⟨Or.inl ?_, fun d q => ?_⟩
    · show -1000 ≤ (wfs c j 160 - c 160).toInt
      rw [a8, show c 160 + nI v - c 160 = nI v by grind, nI_toInt (by omega)]
      omega
    · cases q
      exact ⟨a1.mono (by omega), i, l, by omega, by omega, a4, a6⟩
/-! soundings -/
theorem snd_lo {c : FA} {t j : Nat} (ht : t < 8) (h : j < 32 ∨ 112 ≤ j) : snd9 c t j = c j := by
  unfold snd9 sn3 sn2 sn1 sq
  repeat rw [pk_un (by omega)]
theorem sn3_lo {c : FA} {t j : Nat} (ht : t < 8) (h : j < 40 ∨ 112 ≤ j) : sn3 c t j = c j := by
  unfold sn3 sn2 sn1 sq
  repeat rw [pk_un (by omega)]
theorem snd_ks {c : FA} {t : Nat} (ht : t < 8) : snd9 c t (32 + t) = if 3 < c (32 + t) + 1 then 3 else c (32 + t) + 1 := by
  unfold snd9
  rw [pk_us, sn3_lo ht (by omega)]
theorem snd_0 {c : FA} {t : Nat} (ht : t < 8) : snd9 c t (40 + (t * 3 + 0)) = c 156 ∧ snd9 c t (64 + (t * 3 + 0)) = c t ∧ snd9 c t (88 + (t * 3 + 0)) = c (24 + t) := by
  have e1 : ∀ j, j < 40 ∨ 112 ≤ j → sn2 c t j = c j := by
    intro j hj
    unfold sn2 sn1 sq
    repeat rw [pk_un (by omega)]
  unfold snd9 sn3
  rw [e1 156 (by omega), e1 t (by omega), e1 (24 + t) (by omega)]
  unfold sq
  refine ⟨?_, ?_, ?_⟩
  · rw [pk_un (by omega), pk_un (by omega), pk_un (by omega), pk_us]
  · rw [pk_un (by omega), pk_un (by omega), pk_us]
  · rw [pk_un (by omega), pk_us]
theorem snd_1 {c : FA} {t : Nat} (ht : t < 8) : snd9 c t (40 + (t * 3 + 1)) = c (40 + (t * 3 + 0)) ∧ snd9 c t (64 + (t * 3 + 1)) = c (64 + (t * 3 + 0)) ∧ snd9 c t (88 + (t * 3 + 1)) = c (88 + (t * 3 + 0)) := by
  have e1 : ∀ j, j = 40 + (t * 3 + 0) ∨ j = 64 + (t * 3 + 0) ∨ j = 88 + (t * 3 + 0) → sn1 c t j = c j := by
    intro j hj
    unfold sn1 sq
    repeat rw [pk_un (by omega)]
  unfold snd9 sn3
  generalize sn2 c t 156 = x1
  generalize sn2 c t t = x2
  generalize sn2 c t (24 + t) = x3
  unfold sn2
  rw [e1 (40 + (t * 3 + 0)) (by omega), e1 (64 + (t * 3 + 0)) (by omega), e1 (88 + (t * 3 + 0)) (by omega)]
  unfold sq
  refine ⟨?_, ?_, ?_⟩
  · rw [pk_un (by omega), pk_un (by omega), pk_un (by omega), pk_un (by omega), pk_un (by omega), pk_un (by omega), pk_us]
  · rw [pk_un (by omega), pk_un (by omega), pk_un (by omega), pk_un (by omega), pk_un (by omega), pk_us]
  · rw [pk_un (by omega), pk_un (by omega), pk_un (by omega), pk_un (by omega), pk_us]
theorem snd_G {B t : Nat} {c : FA} (h : Gdz B c) (ht : t < 8) : Gdz B (snd9 c t) := by
  obtain ⟨g1, g2, ⟨N, g3⟩, ⟨M, g4, g5⟩, S, g6, g7⟩ := h
  refine ⟨?_, g2.cg (fun j hj => snd_lo ht (by omega)), ⟨N, g3.cg (fun j h1 h2 => snd_lo ht (by omega))⟩, ⟨M, g4, (snd_lo ht (by omega)).trans g5⟩, S, g6, (snd_lo ht (by omega)).trans g7⟩
  have h3 : Rgz (sn3 c t) := g1.low (fun j hj hf => sn3_lo ht (by unfold pzF at hf; omega))
  unfold snd9
  refine h3.up ?_
  have hk := g1.s ht
  rw [pzR_32 ht, sn3_lo ht (by omega)]
  have e1 : (c (32 + t) + 1).toInt = (c (32 + t)).toInt + 1 := by rw [pzA (by rw [show (1 : Int32).toInt = 1 from rfl]; omega) (by rw [show (1 : Int32).toInt = 1 from rfl]; omega)]; rfl
  split
  · decide
  · next z =>
    rw [Int32.lt_iff_toInt_lt, e1, show (3 : Int32).toInt = 3 from rfl] at z
    show 0 ≤ (c (32 + t) + 1).toInt ∧ (c (32 + t) + 1).toInt ≤ 3
    omega
theorem sou_A {B : Nat} {c : FA} (h : Gdz B c) {t : Int32} (ht : 0 ≤ t ∧ t ≤ 7) : AOz B c (sou c t) := by
  obtain ⟨j, hj, rfl⟩ := rng (n := 7) rfl (by decide) ht
  have ej : ix (nI j) = j := ix_nI (by omega)
  unfold sou
  rw [if_neg (fun q => q ht), ej]
  refine AOz.same ?_ (snd_G h (by omega)) (snd_lo (by omega) (by omega)) (snd_lo (by omega) (by omega))
  rw [snd_lo (by omega) (by omega)]
  have := h.1.w (show j < 8 by omega)
  omega
end
section
/-! ===== what the law says of a barge's cells ===== -/
theorem and1z (a : Int32) : a &&& 1 = 1 ↔ a.toBitVec.getLsbD 0 = true := by
  rw [← Int32.toBitVec_inj, Int32.toBitVec_and]
  show a.toBitVec &&& 1#32 = 1#32 ↔ _
  rw [BitVec.and_one_eq_setWidth_ofBool_getLsbD]
  cases a.toBitVec.getLsbD 0 <;> decide
theorem bt_or (x y : Int32) (t : Nat) : bt (x ||| y) t ↔ bt x t ∨ bt y t := by
  show ((x ||| y) >>> (nI t &&& 31)) &&& 1 = 1 ↔ (x >>> (nI t &&& 31)) &&& 1 = 1 ∨ (y >>> (nI t &&& 31)) &&& 1 = 1
  rw [Int32.shiftRight_or, and1z, and1z, and1z, Int32.toBitVec_or, BitVec.getLsbD_or]
  simp
theorem bt_0 {t : Nat} (ht : t < 8) : ¬ bt 0 t := by
  have : ∀ t, t < 8 → ¬ bt 0 t := by decide
  exact this t ht
theorem nI_orz (a b : Nat) : nI a ||| nI b = nI (a ||| b) := by
  apply Int32.toBitVec_inj.mp
  rw [Int32.toBitVec_or]
  exact BitVec.ofNat_or.symm
theorem opn_bt {c : FA} (g t : Nat) : bt (opn c (g + 1)) t ↔ bt (opn c g) t ∨ (c (123 + g) = 1 ∧ bt (c (118 + g)) t) := by
  show bt (if c (123 + g) = 1 then opn c g ||| c (118 + g) else opn c g) t ↔ _
  by_cases z : c (123 + g) = 1
  · rw [if_pos z, bt_or]
    exact ⟨fun q => q.elim Or.inl (fun q => Or.inr ⟨z, q⟩), fun q => q.elim Or.inl (fun q => Or.inr q.2)⟩
  · rw [if_neg z]
    exact ⟨Or.inl, fun q => q.elim (fun q => q) (fun q => absurd q.1 z)⟩
theorem opn_nI {c : FA} (h : Rgz c) : ∀ g, g ≤ 5 → ∃ k, k < 256 ∧ opn c g = nI k
  | 0, _ => ⟨0, by decide, rfl⟩
  | g + 1, hg => by
    obtain ⟨k, hk, e⟩ := opn_nI h g (by omega)
    have b := h.g (show g < 5 by omega)
    obtain ⟨j, e1, e2, e3⟩ := pzK (a := c (118 + g)) (by omega)
    unfold opn
    split
    · refine ⟨k ||| j, Nat.or_lt_two_pow (n := 8) hk (by omega), ?_⟩
      rw [e, e1, nI_orz]
    · exact ⟨k, hk, e⟩
/-- the tanks of a set, put together again tank by tank -/
def ozz (x : Int32) : Nat → Int32
  | 0 => 0
  | n + 1 => ozz x n ||| (if bt x n then 1 <<< (nI n &&& 31) else 0)
theorem ozz_8 : ∀ k, k < 256 → ozz (nI k) 8 = nI k := by decide +kernel
theorem ozz_opn {c : FA} (h : Rgz c) : ozz (opn c 5) 8 = opn c 5 := by
  obtain ⟨k, hk, e⟩ := opn_nI h 5 (by decide)
  rw [e]
  exact ozz_8 k hk
theorem or_0z (x : Int32) : x ||| 0 = x := by simp
theorem wti_T (c : FA) : wti c 255 = pzT c := fs_cong 8 (fun k hk => if_pos ((by decide : ∀ k, k < 8 → bt 255 k) k hk))
theorem fs_mom (a p : Int32) (f g : Nat → Int32) : ∀ n, fs a (fun t => f t * (g t - p)) n + p * fs 0 f n = a + fs 0 (fun t => f t * g t) n
  | 0 => by show a + p * 0 = a + 0; grind
  | n + 1 => by
    have ih := fs_mom a p f g n
    show fs a (fun t => f t * (g t - p)) n + f n * (g n - p) + p * (fs 0 f n + f n) = a + (fs 0 (fun t => f t * g t) n + f n * g n)
    grind
theorem tmo_z (c : FA) (p : Int32) : tmo c p = fs 0 (fun t => c t * secA (t / 2)) 8 + fs 0 (fun h => c (112 + h) * hldA h) 3 := by
  have e1 : fs (p * (wgt c - 400)) (fun t => c t * (secA (t / 2) - p)) 8 + p * fs 0 c 8 = p * (wgt c - 400) + fs 0 (fun t => c t * secA (t / 2)) 8 := fs_mom (p * (wgt c - 400)) p c (fun t => secA (t / 2)) 8
  have e2 : fs (fs (p * (wgt c - 400)) (fun t => c t * (secA (t / 2) - p)) 8) (fun h => c (112 + h) * (hldA h - p)) 3 + p * fs 0 (fun h => c (112 + h)) 3 = fs (p * (wgt c - 400)) (fun t => c t * (secA (t / 2) - p)) 8 + fs 0 (fun h => c (112 + h) * hldA h) 3 := fs_mom (fs (p * (wgt c - 400)) (fun t => c t * (secA (t / 2) - p)) 8) p (fun h => c (112 + h)) hldA 3
  have e3 := wgt_pz c
  have e4 : fs 0 c 8 = pzT c := rfl
  have e5 : fs 0 (fun h => c (112 + h)) 3 = pzL c := rfl
  rw [e4] at e1
  rw [e5] at e2
  rw [e3] at e1 e2
  unfold tmo
  rw [e3]
  generalize fs (p * (400 + pzT c + pzL c - 400)) (fun t => c t * (secA (t / 2) - p)) 8 = I at *
  generalize fs I (fun h => c (112 + h) * (hldA h - p)) 3 = O at *
  generalize fs 0 (fun t => c t * secA (t / 2)) 8 = A at *
  generalize fs 0 (fun h => c (112 + h) * hldA h) 3 = H at *
  generalize pzT c = T at *
  generalize pzL c = L at *
  grind
/-- the law's own sums -/
def lz3 (c : FA) (n : Nat) : Int32 := fs 0 (fun t => c t * (20 * (nI t / 2) - 30)) n
def lz4 (c : FA) (n : Nat) : Int32 := fs 0 (fun t => c t * (8 * (nI t - nI t / 2 * 2) - 4)) n
def lh7 (c : FA) (n : Nat) : Int32 := fs (400 + pzT c) (fun h => c (112 + h)) n
def lh3 (c : FA) (n : Nat) : Int32 := fs (lz3 c 8) (fun h => c (112 + h) * (20 * nI h - 20)) n
def lh4 (c : FA) (n : Nat) : Int32 := fs (lz4 c 8) (fun h => c (112 + h) * c (115 + h)) n
theorem lh7_e (c : FA) : lh7 c 3 = wgt c := by
  unfold lh7
  rw [fs_z, wgt_pz]
  rfl
theorem lh3_e (c : FA) (p : Int32) : lh3 c 3 = tmo c p := by
  have e1 : lz3 c 8 = fs 0 (fun t => c t * secA (t / 2)) 8 := fs_cong 8 (fun k hk => by show c k * (20 * (nI k / 2) - 30) = c k * secA (k / 2); rw [(by decide : ∀ k, k < 8 → (20 : Int32) * (nI k / 2) - 30 = secA (k / 2)) k hk])
  have e2 : fs (lz3 c 8) (fun h => c (112 + h) * (20 * nI h - 20)) 3 = fs (lz3 c 8) (fun h => c (112 + h) * hldA h) 3 := fs_cong 3 (fun k hk => by show c (112 + k) * (20 * nI k - 20) = c (112 + k) * hldA k; rw [(by decide : ∀ k, k < 3 → (20 : Int32) * nI k - 20 = hldA k) k hk])
  rw [tmo_z, ← e1]
  unfold lh3
  rw [e2, fs_z]
theorem lh4_e (c : FA) : lh4 c 3 = lmo c := by
  have e1 : lz4 c 8 = fs 0 (fun t => c t * sidA (t % 2)) 8 := fs_cong 8 (fun k hk => by show c k * (8 * (nI k - nI k / 2 * 2) - 4) = c k * sidA (k % 2); rw [(by decide : ∀ k, k < 8 → (8 : Int32) * (nI k - nI k / 2 * 2) - 4 = sidA (k % 2)) k hk])
  unfold lh4 lmo
  rw [e1]
theorem lst_e {c : FA} (h : Rgz c) : lst c = 10 * lmo c / wgt c := if_neg (wgt_pos h)
theorem Wbz.e {c : FA} (h : Wbz c) : pzT c = 160 + c 157 - c 158 - lostS c := by
  unfold Wbz at h
  grind
/-! upright -/
/-- what she would list with ch units more in tank t -/
def wdz (c : FA) (t : Nat) (ch : Int32) : Int32 := 10 * (lmo c + ch * (8 * (nI t - nI t / 2 * 2) - 4)) / (wgt c + ch)
/-- (t, ch) may be tried: the water stays in the tank -/
def okz (c : FA) (t : Nat) (ch : Int32) : Prop := ¬ (c t + ch < 0) ∧ c t + ch ≤ 100
/-- what the best so far is, when the changes of P were tried -/
def bez (c : FA) (P : Nat → Int32 → Prop) (N : Nat) (U : US) : Prop :=
  (abi U.2.2).toInt ≤ (abi (lst c)).toInt ∧ (∀ t ch, t < 8 → P t ch → okz c t ch → (abi U.2.2).toInt ≤ (abi (wdz c t ch)).toInt) ∧
  ((U.1 = 0 ∧ U.2.1 = 0 ∧ U.2.2 = lst c) ∨ ∃ (t u : Nat) (ch : Int32), t < 8 ∧ 1 ≤ u ∧ u ≤ N ∧ (ch = nI u ∨ ch = -(nI u)) ∧ U = (nI t, ch, wdz c t ch))
theorem bez.weak {c : FA} {P Q : Nat → Int32 → Prop} {N : Nat} {U : US} (h : bez c P N U) (hq : ∀ t ch, t < 8 → Q t ch → okz c t ch → P t ch) : bez c Q N U := ⟨h.1, fun t ch ht hQ ho => h.2.1 t ch ht (hq t ch ht hQ ho) ho, h.2.2⟩
theorem bez.tak {c : FA} {P : Nat → Int32 → Prop} {N : Nat} {U : US} (h : bez c P N U) {t u : Nat} {ch li : Int32} (ht : t < 8) (h1 : 1 ≤ u) (h2 : u ≤ N) (hc : ch = nI u ∨ ch = -(nI u)) (hl : li = wdz c t ch) : bez c (fun t' ch' => P t' ch' ∨ (t' = t ∧ ch' = ch)) N (bet U (nI t) ch li) := by
  subst hl
  unfold bet
  by_cases z : abi (wdz c t ch) < abi U.2.2
  · rw [if_pos z]
    rw [Int32.lt_iff_toInt_lt] at z
    have h0 := h.1
    refine ⟨?_, fun t' ch' ht' hP ho => ?_, Or.inr ⟨t, u, ch, ht, h1, h2, hc, rfl⟩⟩
    · show (abi (wdz c t ch)).toInt ≤ _; omega
    · show (abi (wdz c t ch)).toInt ≤ _
      rcases hP with hP | ⟨rfl, rfl⟩
      · have := h.2.1 t' ch' ht' hP ho; omega
      · exact Int.le_refl _
  · rw [if_neg z]
    rw [Int32.lt_iff_toInt_lt] at z
    refine ⟨h.1, fun t' ch' ht' hP ho => ?_, h.2.2⟩
    rcases hP with hP | ⟨rfl, rfl⟩
    · exact h.2.1 t' ch' ht' hP ho
    · omega
theorem lof_wd {c : FA} (h : Rgz c) {t u : Nat} (ht : t < 8) (hu : u ≤ 100) (ch : Int32) (hc : ch = nI u ∨ ch = -(nI u)) : lof (lmo c + ch * sidA (t % 2)) (wgt c + ch) = wdz c t ch ∧ ¬ wgt c + ch = 0 := by
  have hw := wgt_bd h
  have hk : (nI u).toInt = u := nI_toInt (by omega)
  have hn : (-(nI u)).toInt = -u := by rw [pzNg (by omega), hk]
  have e1 : 0 < (wgt c + ch).toInt := by
    rcases hc with rfl | rfl
    · rw [pzA (by omega) (by omega)]; omega
    · rw [pzA (by omega) (by omega)]; omega
  have e2 : ¬ wgt c + ch ≤ 0 := by
    rw [Int32.le_iff_toInt_le, show (0 : Int32).toInt = 0 from rfl]; omega
  refine ⟨?_, fun e => e2 (by rw [e]; exact Int32.le_refl _)⟩
  unfold lof wdz
  rw [if_neg e2, (by decide : ∀ k, k < 8 → (8 : Int32) * (nI k - nI k / 2 * 2) - 4 = sidA (k % 2)) t ht]
theorem up_A {c : FA} (h : Rgz c) {P : Nat → Int32 → Prop} {N t u : Nat} {U : US} (g : bez c P N U) (ht : t < 8) (h1 : 1 ≤ u) (h2 : u ≤ N) (hN : N ≤ 100) : bez c (fun t' ch' => P t' ch' ∨ (t' = t ∧ (ch' = nI u ∨ ch' = -(nI u)))) N (up2 c u t (up1 c u t U)) := by
  have hw := h.w ht
  have hk : (nI u).toInt = u := nI_toInt (by omega)
  have g1 : bez c (fun t' ch' => P t' ch' ∨ (t' = t ∧ ch' = nI u)) N (up1 c u t U) := by
    unfold up1
    by_cases z : c t + nI u ≤ 100
    · rw [if_pos z]
      exact g.tak ht h1 h2 (Or.inl rfl) (lof_wd h ht (by omega) _ (Or.inl rfl)).1
    · rw [if_neg z]
      refine g.weak (fun t' ch' ht' hq ho => ?_)
      rcases hq with hq | ⟨rfl, rfl⟩
      · exact hq
      · exact absurd ho.2 z
  unfold up2
  by_cases z : c t - nI u < 0
  · rw [if_pos z]
    refine g1.weak (fun t' ch' ht' hq ho => ?_)
    rcases hq with hq | ⟨rfl, rfl | rfl⟩
    · exact Or.inl hq
    · exact Or.inr ⟨rfl, rfl⟩
    · exact absurd (by rw [← Int32.sub_eq_add_neg]; exact z) ho.1
  · rw [if_neg z]
    have e1 : lof (lmo c - nI u * sidA (t % 2)) (wgt c - nI u) = wdz c t (-(nI u)) := by
      rw [← (lof_wd h ht (show u ≤ 100 by omega) (-(nI u)) (Or.inr rfl)).1]
      congr 1
      · grind
      · grind
    refine (g1.tak ht h1 h2 (Or.inr rfl) e1).weak (fun t' ch' ht' hq ho => ?_)
    rcases hq with hq | ⟨rfl, rfl | rfl⟩
    · exact Or.inl (Or.inl hq)
    · exact Or.inl (Or.inr ⟨rfl, rfl⟩)
    · exact Or.inr ⟨rfl, rfl⟩
/-- all changes of at most n units -/
def upP (n : Nat) (ch : Int32) : Prop := ∃ u, 1 ≤ u ∧ u ≤ n ∧ (ch = nI u ∨ ch = -(nI u))
theorem upi_A {c : FA} (h : Rgz c) {N u : Nat} {P : Nat → Int32 → Prop} {U : US} (g : bez c P N U) (h1 : 1 ≤ u) (h2 : u ≤ N) (hN : N ≤ 100) : ∀ n, n ≤ 8 → bez c (fun t ch => P t ch ∨ (t < n ∧ (ch = nI u ∨ ch = -(nI u)))) N (upi c u U n)
  | 0, _ => g.weak (fun t ch _ hq _ => hq.elim (fun q => q) (fun q => absurd q.1 (Nat.not_lt_zero _)))
  | n + 1, hn => by
    refine (up_A h (upi_A h g h1 h2 hN n (by omega)) (by omega) h1 h2 hN).weak (fun t ch _ hq _ => ?_)
    rcases hq with hq | ⟨q1, q2⟩
    · exact Or.inl (Or.inl hq)
    · by_cases e : t = n
      · exact Or.inr ⟨e, q2⟩
      · exact Or.inl (Or.inr ⟨by omega, q2⟩)
theorem upo_A {c : FA} (h : Rgz c) {N : Nat} (hN : N ≤ 100) : ∀ n, n ≤ N → bez c (fun _ ch => upP n ch) N (upo c n)
  | 0, _ => ⟨Int.le_refl _, fun t ch _ hq _ => by obtain ⟨u, h1, h2, -⟩ := hq; omega, Or.inl ⟨rfl, rfl, rfl⟩⟩
  | n + 1, hn => by
    refine (upi_A h (upo_A h hN n (by omega)) (u := n + 1) (by omega) hn hN 8 (Nat.le_refl 8)).weak (fun t ch ht hq _ => ?_)
    obtain ⟨u, h1, h2, h3⟩ := hq
    by_cases e : u = n + 1
    · rw [e] at h3; exact Or.inr ⟨ht, h3⟩
    · exact Or.inl ⟨u, h1, by omega, h3⟩
end
section
/-! ===== whole runs ===== -/
/-- as Rch, for a whole run alone: nothing stands in the heap at its start -/
def Rc0 (M : MI) (X : AX) (σ : AS) (Ψ : AS → Prop) : Prop := MOk M → ∀ (p : Program) (l : Launch) (e : Env) (R : Room) (s : State) (m : MethodId) (args : Array Value) (below : List Frame) (meth : Method) (c : Code) (D : va_G) (xa : Nat → Nat) (A : Nat → Prop) (am0 : Nat → Nat) (Q : State → Prop),
  CxOk M X p R s m args meth c D xa A → (∀ τ, Ψ τ → Sat M p l e R s m args below meth c D xa A am0 0 Q τ) → Sat M p l e R s m args below meth c D xa A am0 0 Q σ
theorem Rch.z {M : MI} {X : AX} {σ : AS} {Ψ : AS → Prop} (h : Rch M X σ Ψ) : Rc0 M X σ Ψ := fun ok p l e R s m args below meth c D xa A am0 Q cx f => h ok p l e R s m args below meth c D xa A am0 0 Q cx f
theorem Rc0.tr {M : MI} {X : AX} {σ : AS} {Ψ Φ : AS → Prop} (h : Rc0 M X σ Ψ) (k : ∀ τ, Ψ τ → Rc0 M X τ Φ) : Rc0 M X σ Φ :=
  fun ok p l e R s m args below meth c D xa A am0 Q cx f => h ok p l e R s m args below meth c D xa A am0 Q cx (fun τ hτ => k τ hτ ok p l e R s m args below meth c D xa A am0 Q cx f)

/-- objects that nothing names any more are left out -/
theorem Rc0.drop {M : MI} {X : AX} {pc : Nat} {ls : AL} {st : List Value} {h e9 : AH} {cc cs : Nat} {Ψ : AS → Prop} (hcl : clH h = true) (hcl2 : st.all (clV h.length) = true) (hcl3 : ls.all (fun q => clV h.length q.2) = true) (k : Rc0 M X (pc, ls, st, h, cc, cs) Ψ) : Rc0 M X (pc, ls, st, h ++ e9, cc, cs) Ψ := by
  intro ok p l e R s m args below meth c D xa A am0 Q cx f am H locs ws lsC hn0 ham hH hS hl hg
  have g := k ok p l e R s m args below meth c D xa A am0 Q cx f
  dsimp only at hn0 ham hH hl hg ⊢
  have hag : ∀ k9, k9 < h.length → (fun k => if k < h.length then am k else am0 k) k9 = am k9 := fun k9 hk9 => if_pos hk9
  have hag2 : ∀ k9, h.length ≤ k9 → (fun k => if k < h.length then am k else am0 k) k9 = am0 k9 := fun k9 hk9 => if_neg (by omega)
  generalize (fun k => if k < h.length then am k else am0 k) = am' at hag hag2
  have ht : ∀ (k9 : Nat) (x : Nat × va_E), (ws.take h.length)[k9]? = some x → k9 < h.length ∧ ws[k9]? = some x := by
    intro k9 x hx
    rw [List.getElem?_take] at hx
    by_cases q : k9 < h.length
    · rw [if_pos q] at hx; exact ⟨q, hx⟩
    · rw [if_neg q] at hx; cases hx
  have hH' : HOk D s A am' xa h H (ws.take h.length) := by
    obtain ⟨h1, h2, h3, h4, h5⟩ := hH
    rw [List.length_append] at h3 h4
    refine ⟨fun k9 x hx => h1 k9 x (ht k9 x hx).2, ⟨fun i j x y hi hj hxy => h2.1 i j x y (ht i x hi).2 (ht j y hj).2 hxy, fun k9 x hx => h2.2 k9 x (ht k9 x hx).2⟩, by rw [List.length_take]; omega, by omega, fun k9 o hk => ?_⟩
    have hl9 : k9 < h.length := (List.getElem?_eq_some_iff.mp hk).1
    obtain ⟨e1, e2, e3⟩ := h5 k9 o (by rw [List.getElem?_append_left hl9]; exact hk)
    exact ⟨e1, by rw [List.getElem?_take, if_pos hl9, e2, hag k9 hl9], co_cl hag (List.all_eq_true.mp hcl o (List.mem_of_getElem? hk)) e3⟩
  have g2 := g am' H locs (ws.take h.length) lsC (Nat.zero_le _) (fun k9 hk9 => by
    dsimp only at hk9
    exact hag2 k9 (by omega)) hH' hS (by dsimp only; rw [lc_cls hag hcl3]; exact hl) hg
  dsimp only at g2
  rw [cv_cls hag hcl2] at g2
  exact g2
end
section
/-! ===== the law's small methods; what the class answers, number by number ===== -/
theorem Rch.rem {M : MI} {X : AX} {Ψ : AS → Prop} {pc len nx a b : Nat} {v : Int32} {ls : AL} {r : List Value} {h : AH} {cc cs : Nat} {x y : Int32} (hm : mk M pc = (.irem, len, nx, v, a, b)) (hy : ¬ y = 0) (k : Rch M X (nx, ls, .int (x - x / y * y) :: r, h, cc, cs) Ψ) : Rch M X (pc, ls, .int y :: .int x :: r, h, cc, cs) Ψ := by
  refine Rch.st1 ?_ k
  simp only [step1, hm, hy, decide_false, cond_false]
theorem mskz (v : Int32) : 0 ≤ (v &&& 2147483647).toInt := by
  have h : (v &&& 2147483647).toBitVec.msb = false := by
    rw [Int32.toBitVec_and, BitVec.msb_and]
    rw [show (2147483647 : Int32).toBitVec.msb = false by decide, Bool.and_false]
  rw [BitVec.msb_eq_toInt, decide_eq_false_iff_not] at h
  exact Int.not_lt.mp h
theorem lowz (v : Int32) {n : Nat} (h0 : 0 < n) (hn : n < 2 ^ 31) : ∃ k, k < n ∧ (v &&& 2147483647) - (v &&& 2147483647) / nI n * nI n = nI k := by
  have hx := mskz v
  have hb := pzB (v &&& 2147483647)
  generalize v &&& 2147483647 = x at *
  have en : (nI n).toInt = n := nI_toInt hn
  have e1 : (x / nI n).toInt = x.toInt / n := by
    rw [pzD (by intro q; rw [q] at en; exact absurd en (by rw [show (-1 : Int32).toInt = -1 from rfl]; omega)), en, Int.tdiv_eq_ediv_of_nonneg hx]
  have a1 : 0 ≤ x.toInt / n := Int.ediv_nonneg hx (by omega)
  have a2 : x.toInt / n * n ≤ x.toInt := Int.ediv_mul_le _ (by omega)
  have a3 : 0 ≤ x.toInt / n * n := Int.mul_nonneg a1 (by omega)
  have a4 : x.toInt - x.toInt / n * n < n := by
    have := Int.emod_lt_of_pos x.toInt (show (0 : Int) < n by omega)
    have e := Int.emod_def x.toInt n
    rw [Int.mul_comm] at e
    omega
  have e2 : (x / nI n * nI n).toInt = x.toInt / n * n := by rw [pzM (by rw [e1, en]; omega) (by rw [e1, en]; omega), e1, en]
  have e3 : (x - x / nI n * nI n).toInt = x.toInt - x.toInt / n * n := by rw [pzS (by rw [e2]; omega) (by rw [e2]; omega), e2]
  obtain ⟨k, q1, q2, q3⟩ := pzK (a := x - x / nI n * nI n) (by rw [e3]; omega)
  exact ⟨k, by omega, q1⟩
def XL (n : Nat) (f : FA) : AX := fun k => match k with
  | 7 => some (n, f)
  | k => X0 k
theorem XL_sub (n : Nat) (f : FA) : ∀ k n' f', X0 k = some (n', f') → XL n f k = some (n', f') := by
  intro k n' f' h
  unfold XL
  split
  · exact absurd h (by show ¬ none = _; intro q; cases q)
  · exact h
section LS
theorem t_L_low (v : Int32) {n : Nat} (h0 : AH) (hp : 0 < n) (hn : n < 2 ^ 31) : Ct m_L_low X0 [.int v, .int (nI n)] h0 (fun rv h => (∃ k, k < n ∧ rv = some (.int (nI k))) ∧ h = h0) := by
  obtain ⟨k, hk, e⟩ := lowz v hp hn
  refine ⟨ok_L_low, ?_⟩
  refine Rch.go rfl ?_
  refine Rch.ldc rfl (by decide +kernel) ?_
  refine Rch.st 2 rfl ?_
  refine Rch.rem rfl (nI_ne0 hp hn) ?_
  rw [e]
  exact Rch.ri rfl rfl rfl (by decide) (by decide) (⟨⟨k, hk, rfl⟩, rfl⟩)
theorem t_L_size (v : Int32) (h0 : AH) : Ct m_L_size X0 [.int v] h0 (fun rv h => rv = some (.int (abi v)) ∧ h = h0) := by
  refine ⟨ok_L_size, ?_⟩
  refine Rch.go rfl ?_
  refine Rch.z_ge rfl (fun z => ?_) (fun z => ?_)
  · refine Rch.go rfl ?_
    exact Rch.ri rfl rfl rfl (by decide) (by decide) ⟨by unfold abi; rw [if_pos z], rfl⟩
  · refine Rch.go rfl ?_
    exact Rch.ri rfl rfl rfl (by decide) (by decide) ⟨by unfold abi; rw [if_neg z, Int32.zero_sub], rfl⟩
theorem t_L_cell {n k : Nat} {f : FA} (h0 : AH) (hn : n ≤ 260) (hk : k < 56) : Ct m_L_cell (XL n f) [.ref 1007, .int (nI k)] h0 (fun rv h => (∃ x, rv = some (.int x)) ∧ h = h0) := by
  refine ⟨ok_L_cell, ?_⟩
  refine Rch.go rfl ?_
  refine Rch.i_ge rfl (fun z => ?_) (fun z => ?_)
  · refine Rch.go rfl ?_
    exact Rch.ri rfl rfl rfl (by decide) (by decide) (⟨⟨_, rfl⟩, rfl⟩)
  · have hl : k < n := Nat.not_le.mp (fun q => z ((nI_leI (by omega) (by omega)).mpr q : nI n ≤ nI k))
    refine Rch.go rfl ?_
    refine Rch.xa rfl rfl rfl rfl hl (by omega) ?_
    refine Rch.go rfl ?_
    exact Rch.ri rfl rfl rfl (by decide) (by decide) (⟨⟨_, rfl⟩, rfl⟩)
end LS
theorem in7z {t : Nat} (ht : t < 8) : (0 : Int32) ≤ nI t ∧ nI t ≤ 7 := (by decide : ∀ t, t < 8 → (0 : Int32) ≤ nI t ∧ nI t ≤ 7) t ht
theorem in4z {t : Nat} (ht : t < 5) : (0 : Int32) ≤ nI t ∧ nI t ≤ 4 := (by decide : ∀ t, t < 5 → (0 : Int32) ≤ nI t ∧ nI t ≤ 4) t ht
theorem in2z {t : Nat} (ht : t < 3) : (0 : Int32) ≤ nI t ∧ nI t ≤ 2 := (by decide : ∀ t, t < 3 → (0 : Int32) ≤ nI t ∧ nI t ≤ 2) t ht
theorem tnk_z {c : FA} {t : Nat} (ht : t < 8) {w : Nat} (hw : w < 7) : tnk c (nI t) (nI w) = tnJ c t w := by
  have h2 : (0 : Int32) ≤ nI w ∧ nI w ≤ 6 := (by decide : ∀ w, w < 7 → (0 : Int32) ≤ nI w ∧ nI w ≤ 6) w hw
  unfold tnk
  rw [if_neg (fun q => q (in7z ht)), if_pos h2, ix_nI (by omega), ix_nI (by omega)]
theorem tnk_0 {c : FA} {t : Nat} (ht : t < 8) : tnk c (nI t) 0 = c t := tnk_z ht (w := 0) (by decide)
theorem tnk_2 {c : FA} {t : Nat} (ht : t < 8) : tnk c (nI t) 2 = if bt (opn c 5) t then 1 else 0 := tnk_z ht (w := 2) (by decide)
theorem tnk_3 {c : FA} {t : Nat} (ht : t < 8) : tnk c (nI t) 3 = grw c (nI t) 5 := tnk_z ht (w := 3) (by decide)
theorem tnk_4 {c : FA} {t : Nat} (ht : t < 8) : tnk c (nI t) 4 = c (32 + t) := tnk_z ht (w := 4) (by decide)
theorem tnk_5 {c : FA} {t : Nat} (ht : t < 8) : tnk c (nI t) 5 = if 2 ≤ c (32 + t) ∧ c (88 + (t * 3 + 0)) = c (88 + (t * 3 + 1)) then los c t else -1005 := tnk_z ht (w := 5) (by decide)
theorem tnk_6 {c : FA} {t : Nat} (ht : t < 8) : tnk c (nI t) 6 = c (16 + t) := tnk_z ht (w := 6) (by decide)
theorem grp_0 {c : FA} {g : Nat} (hg : g < 5) : grp c (nI g) 0 = c (118 + g) := by
  unfold grp
  rw [if_neg (fun q => q (in4z hg)), if_pos (by decide), ix_nI (by omega)]
  rfl
theorem grp_1 {c : FA} {g : Nat} (hg : g < 5) : grp c (nI g) 1 = c (123 + g) := by
  unfold grp
  rw [if_neg (fun q => q (in4z hg)), if_pos (by decide), ix_nI (by omega)]
  rfl
theorem hld_0 {c : FA} {g : Nat} (hg : g < 3) : hld c (nI g) 0 = c (112 + g) := by
  unfold hld
  rw [if_neg (fun q => q (in2z hg)), if_pos rfl, ix_nI (by omega)]
theorem hld_1 {c : FA} {g : Nat} (hg : g < 3) : hld c (nI g) 1 = c (115 + g) := by
  unfold hld
  rw [if_neg (fun q => q (in2z hg)), if_neg (by decide), if_pos rfl, ix_nI (by omega)]
theorem couz (c : FA) (a b : Int32) {k : Nat} (hk : k < 21) : cou c a b (nI k) = coJ c a b k := by
  have h2 : (0 : Int32) ≤ nI k ∧ nI k ≤ 20 := (by decide : ∀ w, w < 21 → (0 : Int32) ≤ nI w ∧ nI w ≤ 20) k hk
  unfold cou
  rw [if_pos h2, ix_nI (by omega)]
theorem cou_0 (c : FA) (a b : Int32) : cou c a b 0 = wgt c := couz c a b (k := 0) (by decide)
theorem cou_1 (c : FA) (a b : Int32) : cou c a b 1 = tmo c 0 / 40 := couz c a b (k := 1) (by decide)
theorem cou_2 (c : FA) (a b : Int32) : cou c a b 2 = lst c := couz c a b (k := 2) (by decide)
theorem cou_3 (c : FA) (a b : Int32) : cou c a b 3 = wgt c / 10 := couz c a b (k := 3) (by decide)
theorem cou_4 (c : FA) (a b : Int32) : cou c a b 4 = tmo c 0 := couz c a b (k := 4) (by decide)
theorem cou_5 (c : FA) (a b : Int32) : cou c a b 5 = lmo c := couz c a b (k := 5) (by decide)
theorem cou_6 (c : FA) (a b : Int32) : cou c a b 6 = pzT c := (couz c a b (k := 6) (by decide)).trans (wti_T c)
theorem cou_7 (c : FA) (a b : Int32) : cou c a b 7 = c 156 := couz c a b (k := 7) (by decide)
theorem cou_8 (c : FA) (a b : Int32) : cou c a b 8 = c 157 := couz c a b (k := 8) (by decide)
theorem cou_9 (c : FA) (a b : Int32) : cou c a b 9 = c 158 := couz c a b (k := 9) (by decide)
theorem cou_10 (c : FA) (a b : Int32) : cou c a b 10 = lostS c := couz c a b (k := 10) (by decide)
theorem cou_12 (c : FA) (a b : Int32) : cou c a b 12 = c 155 := couz c a b (k := 12) (by decide)
theorem cou_13 (c : FA) (a b : Int32) : cou c a b 13 = c 160 := couz c a b (k := 13) (by decide)
theorem cou_14 (c : FA) (a b : Int32) : cou c a b 14 = opn c 5 := couz c a b (k := 14) (by decide)
theorem cou_15 (c : FA) (a b : Int32) : cou c a b 15 = c 161 := couz c a b (k := 15) (by decide)
theorem cou_18 (c : FA) (a b : Int32) : cou c a b 18 = c 130 := couz c a b (k := 18) (by decide)
end
section
/-! ===== the law: the barge is so ===== -/
section LB
theorem t_L_isBargeSo (c : FA) (K : KS) (s : FA) (L : LS9) {B : Nat} (h : Gdz B c) : Ct m_L_isBargeSo X0 [.ref 0] (HP c K s L []) (fun rv h9 => rv = some (.int 1) ∧ h9 = HP c K s L []) := by
  have hR := h.1
  refine ⟨ok_L_isBargeSo, ?_⟩
  refine Rch.go rfl ?_
  refine Rch.for 8 (fun n => (22, [(0, .ref 0), (1, .int (fs 0 c n)), (2, .int (fs 0 (fun t => c (16 + t)) n)), (3, .int (lz3 c n)), (4, .int (lz4 c n)), (5, .int (ozz (opn c 5) n)), (6, .int 1), (7, .int (nI n))], [.int 8, .int (nI n)], HP c K s L [], 0, 0)) (fun n hn => ?_) ?_ 0 (by omega)
  · refine Rch.i_ge rfl (fun z => absurd z (lo_in hn (by decide))) (fun _ => ?_)
    refine Rch.go rfl ?_
    refine Rch.call 0 (t_X8_tank c K s L [] _ _) rfl rfl g_L_45 om_X8_tank rfl (fun _ _ _ q => q) rfl rfl rfl rfl ⟨rfl, rfl⟩ ⟨by decide, by decide⟩ (fun _ _ q => by obtain ⟨_, rfl⟩ := q; first | with_reducible rfl | (rw [HP_len, HP_len]; done) | rfl) (fun rv9 h9 q9 => ?_)
    obtain ⟨rfl, rfl⟩ := q9
    rw [tnk_0 hn]
    refine Rch.go rfl ?_
    refine Rch.eq (τ := (46, [(0, .ref 0), (1, .int (fs 0 c n)), (2, .int (fs 0 (fun t => c (16 + t)) n)), (3, .int (lz3 c n)), (4, .int (lz4 c n)), (5, .int (ozz (opn c 5) n)), (6, .int 1), (7, .int (nI n)), (8, .int (c n)), (9, .int (grw c (nI n) 0)), (10, .int (if bt (opn c 0) n then 1 else 0)), (11, .int (nI 0))], [.int 5, .int (nI 0)], HP c K s L [], 0, 0)) (by rw [show opn c 0 = 0 from rfl, if_neg (bt_0 hn)]; rfl) ?_
    refine Rch.for 5 (fun g => (46, [(0, .ref 0), (1, .int (fs 0 c n)), (2, .int (fs 0 (fun t => c (16 + t)) n)), (3, .int (lz3 c n)), (4, .int (lz4 c n)), (5, .int (ozz (opn c 5) n)), (6, .int 1), (7, .int (nI n)), (8, .int (c n)), (9, .int (grw c (nI n) g)), (10, .int (if bt (opn c g) n then 1 else 0)), (11, .int (nI g))], [.int 5, .int (nI g)], HP c K s L [], 0, 0)) (fun g hg => ?_) ?_ 0 (by omega)
    · refine Rch.i_ge rfl (fun z => absurd z (lo_in hg (by decide))) (fun _ => ?_)
      refine Rch.go rfl ?_
      refine Rch.call 0 (t_X8_group c K s L [] _ _) rfl rfl g_L_48 om_X8_group rfl (fun _ _ _ q => q) rfl rfl rfl rfl ⟨rfl, rfl⟩ ⟨by decide, by decide⟩ (fun _ _ q => by obtain ⟨_, rfl⟩ := q; first | with_reducible rfl | (rw [HP_len, HP_len]; done) | rfl) (fun rv9 h9 q9 => ?_)
      obtain ⟨rfl, rfl⟩ := q9
      rw [grp_0 hg]
      refine Rch.go rfl ?_
      have ob := opn_bt (c := c) g n
      have fin : ∀ (gv : Int32) (v10 : Int32) (v12 : Int32), gv = grw c (nI n) (g + 1) → v10 = (if bt (opn c (g + 1)) n then 1 else 0) → Rch m_L_isBargeSo X0 (116, [(0, .ref 0), (1, .int (fs 0 c n)), (2, .int (fs 0 (fun t => c (16 + t)) n)), (3, .int (lz3 c n)), (4, .int (lz4 c n)), (5, .int (ozz (opn c 5) n)), (6, .int 1), (7, .int (nI n)), (8, .int (c n)), (9, .int gv), (10, .int (if bt (opn c g) n then 1 else 0)), (11, .int (nI g)), (12, .int v12)], [.int v10], HP c K s L [], 0, 0) (fun τ => τ = (46, [(0, .ref 0), (1, .int (fs 0 c n)), (2, .int (fs 0 (fun t => c (16 + t)) n)), (3, .int (lz3 c n)), (4, .int (lz4 c n)), (5, .int (ozz (opn c 5) n)), (6, .int 1), (7, .int (nI n)), (8, .int (c n)), (9, .int (grw c (nI n) (g + 1))), (10, .int (if bt (opn c (g + 1)) n then 1 else 0)), (11, .int (nI (g + 1)))], [.int 5, .int (nI (g + 1))], HP c K s L [], 0, 0)) := by
        intro gv v10 v12 e1 e2
        subst e1
        subst e2
        refine Rch.go rfl ?_
        refine Rch.wp [0, 1, 2, 3, 4, 5, 6, 7, 8, 9, 10, 11] rfl rfl (Rch.rf ?_)
        rw [nI_1]
        rfl
      refine Rch.i_ne rfl (fun z => ?_) (fun z => ?_)
      · have eg : grw c (nI n) g ||| (1 <<< (nI g &&& 31)) = grw c (nI n) (g + 1) := (if_pos z).symm
        refine Rch.go rfl ?_
        refine Rch.z_eq rfl (fun q => absurd q (by decide)) (fun _ => ?_)
        refine Rch.go rfl ?_
        by_cases y : bt (opn c g) n
        · refine Rch.z_ne rfl (fun q => absurd y (i0 q)) (fun _ => ?_)
          refine Rch.st 2 rfl ?_
          exact fin _ _ _ eg (if_pos (ob.mpr (Or.inl y))).symm
        · refine Rch.z_ne rfl (fun _ => ?_) (fun q => absurd (i1 q) y)
          refine Rch.go rfl ?_
          refine Rch.z_eq rfl (fun q => absurd q (by decide)) (fun _ => ?_)
          refine Rch.go rfl ?_
          refine Rch.call 0 (t_X8_group c K s L [] _ _) rfl rfl g_L_48 om_X8_group rfl (fun _ _ _ q => q) rfl rfl rfl rfl ⟨rfl, rfl⟩ ⟨by decide, by decide⟩ (fun _ _ q => by obtain ⟨_, rfl⟩ := q; first | with_reducible rfl | (rw [HP_len, HP_len]; done) | rfl) (fun rv9 h9 q9 => ?_)
          obtain ⟨rfl, rfl⟩ := q9
          rw [grp_1 hg]
          refine Rch.go rfl ?_
          refine Rch.i_ne rfl (fun o => ?_) (fun o => ?_)
          · refine Rch.st 2 rfl ?_
            exact fin _ _ _ eg (if_pos (ob.mpr (Or.inr ⟨o, z⟩))).symm
          · refine Rch.st 1 rfl ?_
            exact fin _ _ _ eg (if_neg (fun q => (ob.mp q).elim y (fun q => o q.1))).symm
      · have eg : grw c (nI n) g ||| 0 = grw c (nI n) (g + 1) := by rw [or_0z]; exact (if_neg z).symm
        refine Rch.go rfl ?_
        refine Rch.z_eq rfl (fun _ => ?_) (fun q => absurd rfl q)
        refine Rch.go rfl ?_
        by_cases y : bt (opn c g) n
        · refine Rch.z_ne rfl (fun q => absurd y (i0 q)) (fun _ => ?_)
          refine Rch.st 2 rfl ?_
          exact fin _ _ _ eg (if_pos (ob.mpr (Or.inl y))).symm
        · refine Rch.z_ne rfl (fun _ => ?_) (fun q => absurd (i1 q) y)
          refine Rch.go rfl ?_
          refine Rch.z_eq rfl (fun _ => ?_) (fun q => absurd rfl q)
          refine Rch.st 1 rfl ?_
          exact fin _ _ _ eg (if_neg (fun q => (ob.mp q).elim y (fun q => z q.2))).symm
    · refine Rch.i_ge rfl (fun _ => ?_) (fun z => absurd (lo_out (by decide)) z)
      refine Rch.go rfl ?_
      refine Rch.call 0 (t_X8_tank c K s L [] _ _) rfl rfl g_L_45 om_X8_tank rfl (fun _ _ _ q => q) rfl rfl rfl rfl ⟨rfl, rfl⟩ ⟨by decide, by decide⟩ (fun _ _ q => by obtain ⟨_, rfl⟩ := q; first | with_reducible rfl | (rw [HP_len, HP_len]; done) | rfl) (fun rv9 h9 q9 => ?_)
      obtain ⟨rfl, rfl⟩ := q9
      rw [tnk_6 hn]
      refine Rch.go rfl ?_
      have hw := hR.w hn
      have hs := hR.s hn
      have fin : ∀ w : Int32, ozz (opn c 5) n ||| w = ozz (opn c 5) (n + 1) → Rch m_L_isBargeSo X0 (155, [(0, .ref 0), (1, .int (fs 0 c n + c n)), (2, .int (fs 0 (fun t => c (16 + t)) n + c (16 + n))), (3, .int (lz3 c n)), (4, .int (lz4 c n)), (5, .int (ozz (opn c 5) n)), (6, .int 1), (7, .int (nI n)), (8, .int (c n)), (9, .int (grw c (nI n) 5)), (10, .int (if bt (opn c 5) n then 1 else 0)), (11, .int (nI 5))], [.int w, .int (ozz (opn c 5) n)], HP c K s L [], 0, 0) (fun τ => τ = (22, [(0, .ref 0), (1, .int (fs 0 c (n + 1))), (2, .int (fs 0 (fun t => c (16 + t)) (n + 1))), (3, .int (lz3 c (n + 1))), (4, .int (lz4 c (n + 1))), (5, .int (ozz (opn c 5) (n + 1))), (6, .int 1), (7, .int (nI (n + 1)))], [.int 8, .int (nI (n + 1))], HP c K s L [], 0, 0)) := by
        intro w e1
        refine Rch.go rfl ?_
        rw [e1]
        refine Rch.div rfl (by decide) ?_
        refine Rch.go rfl ?_
        refine Rch.z_eq rfl (fun q => absurd q (by decide)) (fun _ => ?_)
        refine Rch.go rfl ?_
        refine Rch.z_lt rfl (fun q => absurd (pzlt.mp q) (by rw [show (0 : Int32).toInt = 0 from rfl]; omega)) (fun _ => ?_)
        refine Rch.go rfl ?_
        refine Rch.i_gt rfl (fun q => absurd (pzlt.mp q) (by rw [show (100 : Int32).toInt = 100 from rfl]; omega)) (fun _ => ?_)
        refine Rch.go rfl ?_
        refine Rch.call 0 (t_X8_tank c K s L [] _ _) rfl rfl g_L_45 om_X8_tank rfl (fun _ _ _ q => q) rfl rfl rfl rfl ⟨rfl, rfl⟩ ⟨by decide, by decide⟩ (fun _ _ q => by obtain ⟨_, rfl⟩ := q; first | with_reducible rfl | (rw [HP_len, HP_len]; done) | rfl) (fun rv9 h9 q9 => ?_)
        obtain ⟨rfl, rfl⟩ := q9
        rw [tnk_3 hn]
        refine Rch.go rfl ?_
        refine Rch.i_ne rfl (fun _ => ?_) (fun q => absurd rfl q)
        refine Rch.go rfl ?_
        refine Rch.call 0 (t_X8_tank c K s L [] _ _) rfl rfl g_L_45 om_X8_tank rfl (fun _ _ _ q => q) rfl rfl rfl rfl ⟨rfl, rfl⟩ ⟨by decide, by decide⟩ (fun _ _ q => by obtain ⟨_, rfl⟩ := q; first | with_reducible rfl | (rw [HP_len, HP_len]; done) | rfl) (fun rv9 h9 q9 => ?_)
        obtain ⟨rfl, rfl⟩ := q9
        rw [tnk_2 hn]
        refine Rch.go rfl ?_
        have go : ∀ v : Int32, v = (if bt (opn c 5) n then 1 else 0) → Rch m_L_isBargeSo X0 (236, [(0, .ref 0), (1, .int (fs 0 c n + c n)), (2, .int (fs 0 (fun t => c (16 + t)) n + c (16 + n))), (3, .int (lz3 c n + c n * (20 * (nI n / 2) - 30))), (4, .int (lz4 c n + c n * (8 * (nI n - nI n / 2 * 2) - 4))), (5, .int (ozz (opn c 5) (n + 1))), (6, .int 1), (7, .int (nI n)), (8, .int (c n)), (9, .int (grw c (nI n) 5)), (10, .int (if bt (opn c 5) n then 1 else 0)), (11, .int (nI 5))], [.int v], HP c K s L [], 0, 0) (fun τ => τ = (22, [(0, .ref 0), (1, .int (fs 0 c (n + 1))), (2, .int (fs 0 (fun t => c (16 + t)) (n + 1))), (3, .int (lz3 c (n + 1))), (4, .int (lz4 c (n + 1))), (5, .int (ozz (opn c 5) (n + 1))), (6, .int 1), (7, .int (nI (n + 1)))], [.int 8, .int (nI (n + 1))], HP c K s L [], 0, 0)) := by
          intro v e2
          refine Rch.go rfl ?_
          refine Rch.i_ne rfl (fun _ => ?_) (fun q => absurd e2 q)
          refine Rch.go rfl ?_
          refine Rch.call 0 (t_X8_tank c K s L [] _ _) rfl rfl g_L_45 om_X8_tank rfl (fun _ _ _ q => q) rfl rfl rfl rfl ⟨rfl, rfl⟩ ⟨by decide, by decide⟩ (fun _ _ q => by obtain ⟨_, rfl⟩ := q; first | with_reducible rfl | (rw [HP_len, HP_len]; done) | rfl) (fun rv9 h9 q9 => ?_)
          obtain ⟨rfl, rfl⟩ := q9
          rw [tnk_4 hn]
          refine Rch.go rfl ?_
          refine Rch.i_gt rfl (fun q => absurd (pzlt.mp q) (by rw [show (3 : Int32).toInt = 3 from rfl]; omega)) (fun _ => ?_)
          refine Rch.go rfl ?_
          refine Rch.wp [0, 1, 2, 3, 4, 5, 6, 7] rfl rfl (Rch.rf ?_)
          rw [nI_1]
          rfl
        by_cases y : bt (opn c 5) n
        · refine Rch.i_ne rfl (fun _ => ?_) (fun q => absurd (if_pos y) q)
          refine Rch.st 2 rfl ?_
          exact go 1 (if_pos y).symm
        · refine Rch.i_ne rfl (fun q => absurd ((if_neg y).symm.trans q) (by decide)) (fun _ => ?_)
          refine Rch.st 1 rfl ?_
          exact go 0 (if_neg y).symm
      by_cases y : bt (opn c 5) n
      · refine Rch.z_eq rfl (fun q => absurd y (i0 q)) (fun _ => ?_)
        refine Rch.st 4 rfl ?_
        exact fin _ (by show _ = ozz (opn c 5) n ||| (if bt (opn c 5) n then 1 <<< (nI n &&& 31) else 0); rw [if_pos y])
      · refine Rch.z_eq rfl (fun _ => ?_) (fun q => absurd (i1 q) y)
        refine Rch.st 1 rfl ?_
        exact fin _ (by show _ = ozz (opn c 5) n ||| (if bt (opn c 5) n then 1 <<< (nI n &&& 31) else 0); rw [if_neg y])
  · refine Rch.i_ge rfl (fun _ => ?_) (fun z => absurd (lo_out (by decide)) z)
    refine Rch.go rfl ?_
    refine Rch.for 3 (fun n => (278, [(0, .ref 0), (1, .int (fs 0 c 8)), (2, .int (fs 0 (fun t => c (16 + t)) 8)), (3, .int (lh3 c n)), (4, .int (lh4 c n)), (5, .int (ozz (opn c 5) 8)), (6, .int 1), (7, .int (lh7 c n)), (8, .int (nI n))], [.int 3, .int (nI n)], HP c K s L [], 0, 0)) (fun n hn => ?_) ?_ 0 (by omega)
    · refine Rch.i_ge rfl (fun z => absurd z (lo_in hn (by decide))) (fun _ => ?_)
      have hf := hR.f hn
      refine Rch.go rfl ?_
      refine Rch.call 0 (t_X8_hold c K s L [] _ _) rfl rfl g_L_51 om_X8_hold rfl (fun _ _ _ q => q) rfl rfl rfl rfl ⟨rfl, rfl⟩ ⟨by decide, by decide⟩ (fun _ _ q => by obtain ⟨_, rfl⟩ := q; first | with_reducible rfl | (rw [HP_len, HP_len]; done) | rfl) (fun rv9 h9 q9 => ?_)
      obtain ⟨rfl, rfl⟩ := q9
      rw [hld_0 hn]
      refine Rch.go rfl ?_
      refine Rch.call 0 (t_X8_hold c K s L [] _ _) rfl rfl g_L_51 om_X8_hold rfl (fun _ _ _ q => q) rfl rfl rfl rfl ⟨rfl, rfl⟩ ⟨by decide, by decide⟩ (fun _ _ q => by obtain ⟨_, rfl⟩ := q; first | with_reducible rfl | (rw [HP_len, HP_len]; done) | rfl) (fun rv9 h9 q9 => ?_)
      obtain ⟨rfl, rfl⟩ := q9
      rw [hld_1 hn]
      refine Rch.go rfl ?_
      refine Rch.z_eq rfl (fun q => absurd q (by decide)) (fun _ => ?_)
      refine Rch.go rfl ?_
      refine Rch.call 0 (t_X8_hold c K s L [] _ _) rfl rfl g_L_51 om_X8_hold rfl (fun _ _ _ q => q) rfl rfl rfl rfl ⟨rfl, rfl⟩ ⟨by decide, by decide⟩ (fun _ _ q => by obtain ⟨_, rfl⟩ := q; first | with_reducible rfl | (rw [HP_len, HP_len]; done) | rfl) (fun rv9 h9 q9 => ?_)
      obtain ⟨rfl, rfl⟩ := q9
      rw [hld_1 hn]
      refine Rch.call 1 (t_L_size _ _) rfl rfl g_L_54 om_L_size rfl (fun _ _ _ q => q) rfl rfl rfl rfl ⟨rfl, rfl⟩ ⟨by decide, by decide⟩ (fun _ _ q => by obtain ⟨_, rfl⟩ := q; first | with_reducible rfl | (rw [HP_len, HP_len]; done) | rfl) (fun rv9 h9 q9 => ?_)
      obtain ⟨rfl, rfl⟩ := q9
      refine Rch.go rfl ?_
      refine Rch.i_gt rfl (fun q => absurd (pzlt.mp q) (by rw [abi_in _ (by omega), show (3 : Int32).toInt = 3 from rfl]; split <;> omega)) (fun _ => ?_)
      refine Rch.go rfl ?_
      refine Rch.wp [0, 1, 2, 3, 4, 5, 6, 7, 8] rfl rfl (Rch.rf ?_)
      rw [nI_1]
      rfl
    · refine Rch.i_ge rfl (fun _ => ?_) (fun z => absurd (lo_out (by decide)) z)
      obtain ⟨N, hN⟩ := h.2.2.1
      rw [lh7_e, lh3_e c 0, lh4_e, ozz_opn hR]
      refine Rch.go rfl ?_
      refine Rch.z_eq rfl (fun q => absurd q (by decide)) (fun _ => ?_)
      refine Rch.go rfl ?_
      refine Rch.call 0 (t_X8_count c K s L [] _) rfl rfl g_L_57 om_X8_count rfl (fun _ _ _ q => q) rfl rfl rfl rfl ⟨rfl, rfl⟩ ⟨by decide, by decide⟩ (fun _ _ q => by obtain ⟨_, rfl⟩ := q; first | with_reducible rfl | (rw [HP_len, HP_len]; done) | rfl) (fun rv9 h9 q9 => ?_)
      obtain ⟨rfl, rfl⟩ := q9
      refine Rch.i_ne rfl (fun _ => ?_) (fun q => absurd (cou_6 c _ _).symm q)
      refine Rch.go rfl ?_
      refine Rch.call 0 (t_X8_count c K s L [] _) rfl rfl g_L_57 om_X8_count rfl (fun _ _ _ q => q) rfl rfl rfl rfl ⟨rfl, rfl⟩ ⟨by decide, by decide⟩ (fun _ _ q => by obtain ⟨_, rfl⟩ := q; first | with_reducible rfl | (rw [HP_len, HP_len]; done) | rfl) (fun rv9 h9 q9 => ?_)
      obtain ⟨rfl, rfl⟩ := q9
      refine Rch.i_ne rfl (fun _ => ?_) (fun q => absurd (cou_0 c _ _).symm q)
      refine Rch.go rfl ?_
      refine Rch.call 0 (t_X8_count c K s L [] _) rfl rfl g_L_57 om_X8_count rfl (fun _ _ _ q => q) rfl rfl rfl rfl ⟨rfl, rfl⟩ ⟨by decide, by decide⟩ (fun _ _ q => by obtain ⟨_, rfl⟩ := q; first | with_reducible rfl | (rw [HP_len, HP_len]; done) | rfl) (fun rv9 h9 q9 => ?_)
      obtain ⟨rfl, rfl⟩ := q9
      refine Rch.i_ne rfl (fun _ => ?_) (fun q => absurd (cou_4 c _ _).symm q)
      refine Rch.go rfl ?_
      refine Rch.call 0 (t_X8_count c K s L [] _) rfl rfl g_L_57 om_X8_count rfl (fun _ _ _ q => q) rfl rfl rfl rfl ⟨rfl, rfl⟩ ⟨by decide, by decide⟩ (fun _ _ q => by obtain ⟨_, rfl⟩ := q; first | with_reducible rfl | (rw [HP_len, HP_len]; done) | rfl) (fun rv9 h9 q9 => ?_)
      obtain ⟨rfl, rfl⟩ := q9
      refine Rch.i_ne rfl (fun _ => ?_) (fun q => absurd (cou_5 c _ _).symm q)
      refine Rch.go rfl ?_
      refine Rch.call 0 (t_X8_count c K s L [] _) rfl rfl g_L_57 om_X8_count rfl (fun _ _ _ q => q) rfl rfl rfl rfl ⟨rfl, rfl⟩ ⟨by decide, by decide⟩ (fun _ _ q => by obtain ⟨_, rfl⟩ := q; first | with_reducible rfl | (rw [HP_len, HP_len]; done) | rfl) (fun rv9 h9 q9 => ?_)
      obtain ⟨rfl, rfl⟩ := q9
      refine Rch.go rfl ?_
      refine Rch.div rfl (by decide) ?_
      refine Rch.i_ne rfl (fun _ => ?_) (fun q => absurd (cou_1 c _ _) q)
      refine Rch.go rfl ?_
      refine Rch.call 0 (t_X8_count c K s L [] _) rfl rfl g_L_57 om_X8_count rfl (fun _ _ _ q => q) rfl rfl rfl rfl ⟨rfl, rfl⟩ ⟨by decide, by decide⟩ (fun _ _ q => by obtain ⟨_, rfl⟩ := q; first | with_reducible rfl | (rw [HP_len, HP_len]; done) | rfl) (fun rv9 h9 q9 => ?_)
      obtain ⟨rfl, rfl⟩ := q9
      refine Rch.go rfl ?_
      refine Rch.div rfl (wgt_ne hR) ?_
      refine Rch.i_ne rfl (fun _ => ?_) (fun q => absurd ((cou_2 c _ _).trans (lst_e hR)) q)
      refine Rch.go rfl ?_
      refine Rch.call 0 (t_X8_count c K s L [] _) rfl rfl g_L_57 om_X8_count rfl (fun _ _ _ q => q) rfl rfl rfl rfl ⟨rfl, rfl⟩ ⟨by decide, by decide⟩ (fun _ _ q => by obtain ⟨_, rfl⟩ := q; first | with_reducible rfl | (rw [HP_len, HP_len]; done) | rfl) (fun rv9 h9 q9 => ?_)
      obtain ⟨rfl, rfl⟩ := q9
      refine Rch.go rfl ?_
      refine Rch.div rfl (by decide) ?_
      refine Rch.i_ne rfl (fun _ => ?_) (fun q => absurd (cou_3 c _ _) q)
      refine Rch.go rfl ?_
      refine Rch.call 0 (t_X8_count c K s L [] _) rfl rfl g_L_57 om_X8_count rfl (fun _ _ _ q => q) rfl rfl rfl rfl ⟨rfl, rfl⟩ ⟨by decide, by decide⟩ (fun _ _ q => by obtain ⟨_, rfl⟩ := q; first | with_reducible rfl | (rw [HP_len, HP_len]; done) | rfl) (fun rv9 h9 q9 => ?_)
      obtain ⟨rfl, rfl⟩ := q9
      refine Rch.i_ne rfl (fun _ => ?_) (fun q => absurd (cou_14 c _ _).symm q)
      refine Rch.go rfl ?_
      refine Rch.z_eq rfl (fun q => absurd q (by decide)) (fun _ => ?_)
      refine Rch.go rfl ?_
      refine Rch.call 0 (t_X8_count c K s L [] _) rfl rfl g_L_57 om_X8_count rfl (fun _ _ _ q => q) rfl rfl rfl rfl ⟨rfl, rfl⟩ ⟨by decide, by decide⟩ (fun _ _ q => by obtain ⟨_, rfl⟩ := q; first | with_reducible rfl | (rw [HP_len, HP_len]; done) | rfl) (fun rv9 h9 q9 => ?_)
      obtain ⟨rfl, rfl⟩ := q9
      rw [cou_8]
      refine Rch.go rfl ?_
      refine Rch.call 0 (t_X8_count c K s L [] _) rfl rfl g_L_57 om_X8_count rfl (fun _ _ _ q => q) rfl rfl rfl rfl ⟨rfl, rfl⟩ ⟨by decide, by decide⟩ (fun _ _ q => by obtain ⟨_, rfl⟩ := q; first | with_reducible rfl | (rw [HP_len, HP_len]; done) | rfl) (fun rv9 h9 q9 => ?_)
      obtain ⟨rfl, rfl⟩ := q9
      rw [cou_9]
      refine Rch.go rfl ?_
      refine Rch.call 0 (t_X8_count c K s L [] _) rfl rfl g_L_57 om_X8_count rfl (fun _ _ _ q => q) rfl rfl rfl rfl ⟨rfl, rfl⟩ ⟨by decide, by decide⟩ (fun _ _ q => by obtain ⟨_, rfl⟩ := q; first | with_reducible rfl | (rw [HP_len, HP_len]; done) | rfl) (fun rv9 h9 q9 => ?_)
      obtain ⟨rfl, rfl⟩ := q9
      rw [cou_10]
      refine Rch.st 1 rfl ?_
      refine Rch.i_ne rfl (fun _ => ?_) (fun q => absurd h.2.1.e q)
      refine Rch.go rfl ?_
      refine Rch.call 0 (t_X8_count c K s L [] _) rfl rfl g_L_57 om_X8_count rfl (fun _ _ _ q => q) rfl rfl rfl rfl ⟨rfl, rfl⟩ ⟨by decide, by decide⟩ (fun _ _ q => by obtain ⟨_, rfl⟩ := q; first | with_reducible rfl | (rw [HP_len, HP_len]; done) | rfl) (fun rv9 h9 q9 => ?_)
      obtain ⟨rfl, rfl⟩ := q9
      refine Rch.i_ne rfl (fun _ => ?_) (fun q => absurd (cou_10 c _ _).symm q)
      refine Rch.go rfl ?_
      refine Rch.call 0 (t_X8_trimMoment c K s L [] _) rfl rfl g_L_60 om_X8_trimMoment rfl (fun _ _ _ q => q) rfl rfl rfl rfl ⟨rfl, rfl⟩ ⟨by decide, by decide⟩ (fun _ _ q => by obtain ⟨_, rfl⟩ := q; first | with_reducible rfl | (rw [HP_len, HP_len]; done) | rfl) (fun rv9 h9 q9 => ?_)
      obtain ⟨rfl, rfl⟩ := q9
      refine Rch.go rfl ?_
      refine Rch.i_ne rfl (fun _ => ?_) (fun q => absurd (show tri c 0 = tmo c 0 from if_neg (fun q => q (by decide))) q)
      refine Rch.go rfl ?_
      refine Rch.call 0 (t_X8_trimMoment c K s L [] _) rfl rfl g_L_60 om_X8_trimMoment rfl (fun _ _ _ q => q) rfl rfl rfl rfl ⟨rfl, rfl⟩ ⟨by decide, by decide⟩ (fun _ _ q => by obtain ⟨_, rfl⟩ := q; first | with_reducible rfl | (rw [HP_len, HP_len]; done) | rfl) (fun rv9 h9 q9 => ?_)
      obtain ⟨rfl, rfl⟩ := q9
      refine Rch.go rfl ?_
      refine Rch.i_ne rfl (fun _ => ?_) (fun q => absurd ((show tri c (-37) = tmo c (-37) from if_neg (fun q => q (by decide))).trans ((tmo_z c _).trans (tmo_z c _).symm)) q)
      refine Rch.go rfl ?_
      refine Rch.call 0 (t_X8_trimMoment c K s L [] _) rfl rfl g_L_60 om_X8_trimMoment rfl (fun _ _ _ q => q) rfl rfl rfl rfl ⟨rfl, rfl⟩ ⟨by decide, by decide⟩ (fun _ _ q => by obtain ⟨_, rfl⟩ := q; first | with_reducible rfl | (rw [HP_len, HP_len]; done) | rfl) (fun rv9 h9 q9 => ?_)
      obtain ⟨rfl, rfl⟩ := q9
      refine Rch.go rfl ?_
      refine Rch.i_ne rfl (fun _ => ?_) (fun q => absurd ((show tri c 50 = tmo c 50 from if_neg (fun q => q (by decide))).trans ((tmo_z c _).trans (tmo_z c _).symm)) q)
      refine Rch.go rfl ?_
      refine Rch.call 0 (t_X8_count c K s L [] _) rfl rfl g_L_57 om_X8_count rfl (fun _ _ _ q => q) rfl rfl rfl rfl ⟨rfl, rfl⟩ ⟨by decide, by decide⟩ (fun _ _ q => by obtain ⟨_, rfl⟩ := q; first | with_reducible rfl | (rw [HP_len, HP_len]; done) | rfl) (fun rv9 h9 q9 => ?_)
      obtain ⟨rfl, rfl⟩ := q9
      rw [cou_12, hN.1]
      refine Rch.go rfl ?_
      refine Rch.i_gt rfl (fun q => absurd ((nI_ltI (a := 12) (by decide) (by have := hN.2.1; omega)).mp q) (by have := hN.2.1; omega)) (fun _ => ?_)
      refine Rch.go rfl ?_
      exact Rch.ri rfl rfl rfl (by decide) (by decide) ⟨rfl, rfl⟩
end LB
end
section
/-! ===== the law: work is so ===== -/
def BKz (c : FA) (n : Nat) (K : KR) (s : FA) (L : LS9) (rv : Option Value) (h9 : AH) : Prop := rv = some (.int 1) ∧ ∃ (c' : FA) (r' : Nat → FA) (q' : Nat), q' ≤ 4 ∧ (∀ j, j < 162 → c' j = c j) ∧ h9 = HP c' (r', nI n, nI q', K) s L []
theorem wkz {B N R : Nat} {c : FA} (h : Gdz B c) (hN : RowOk c N) (h0 : 0 < N) (hR : c 128 = nI R) (hR9 : R ≤ 9) : ∃ (k b : Nat) (d : FA), k < 5 ∧ (k < 2 → b < 5) ∧ b ≤ 60 ∧ wrk c 1 = (d 160 - c 160, some d) ∧ wai c 0 0 = nI k ∧ wai c 0 1 = nI b ∧ wai c 0 2 = rsn c k b ∧ RowOk d (N - 1) ∧ wai d 0 1 = wai c 1 1 ∧ d 156 = c 156 + (if rsn c k b = 0 ∧ 2 ≤ k then nI b else 0) ∧ d 160 - c 160 = (if rsn c k b = 0 then 0 else 1) ∧ (k < 2 → d (123 + b) = if k = 0 then 1 else 0) ∧ (k = 4 → pzT d + lostS d = pzT c + lostS c) ∧ (k = 2 → dpz c → dpz d) := by
  have hN12 := hN.2.1
  obtain ⟨k, b, e1, e2, e3, e4, e5, e6⟩ := hN.2.2 0 h0
  have e1 : c 131 = nI k := e1
  have e2 : c 143 = nI b := e2
  have n1 : ix (c 155) = N := by rw [hN.1]; exact ix_nI (by omega)
  have n2 : ix (c 131) = k := by rw [e1]; exact ix_nI (by omega)
  have n3 : ix (c 143) = b := by rw [e2]; exact ix_nI (by omega)
  have n4 : ix (c 128) = R := by rw [hR]; exact ix_nI (by omega)
  have c0 : ¬ c 155 ≤ 0 := by
    rw [hN.1]
    intro q
    have := (nI_leI (b := 0) (by omega) (by decide)).mp q
    omega
  have cz : ¬ c 155 = 0 := fun q => c0 (by rw [q]; exact Int32.le_refl _)
  have ew : wf c = wof c N k b R := by unfold wf; rw [n1, if_neg (by omega), n2, n3, n4]
  have i0 : ix (0 : Int32) = 0 := ix_nI (j := 0) (by decide)
  have i1 : ix (1 : Int32) = 1 := ix_nI (j := 1) (by decide)
  have wa : ∀ w : Int32, 0 ≤ w ∧ w ≤ 2 → wai c 0 w = if w = 0 then nI k else if w = 1 then nI b else rsn c k b := by
    intro w hw
    unfold wai
    rw [if_neg (fun q => q.elim (by decide) (fun q => q hw)), if_neg c0, i0, show 131 + 0 = 131 from rfl, show 143 + 0 = 143 from rfl, n2, n3, e1, e2]
  obtain ⟨a1, a2, a3, a4, a5, a6, a7, a8⟩ := wof_A (r := R) h hN h0 e3 e4 e6
  refine ⟨k, b, wof c N k b R, e3, e4, e6, ?_, ?_, ?_, ?_, a2, ?_, a3, ?_, a6, a7, a8⟩
  · unfold wrk
    rw [if_neg (by decide), if_neg cz, i1, show wfs c 1 = wf c from rfl, ew]
  · rw [wa 0 (by decide), if_pos rfl]
  · rw [wa 1 (by decide), if_neg (by decide), if_pos rfl]
  · rw [wa 2 (by decide), if_neg (by decide), if_neg (by decide)]
  · have g1 : ∀ D : FA, wai D 0 1 = if D 155 ≤ 0 then -1005 else D 143 := by
      intro D
      unfold wai
      rw [if_neg (by decide), i0, if_neg (show ¬ (1 : Int32) = 0 by decide), if_pos (show (1 : Int32) = 1 from rfl)]
    have g2 : wai c 1 1 = if c 155 ≤ 1 then -1005 else c 144 := by
      unfold wai
      rw [if_neg (by decide), i1, if_neg (show ¬ (1 : Int32) = 0 by decide), if_pos (show (1 : Int32) = 1 from rfl)]
    have p1 : wof c N k b R 155 ≤ 0 ↔ N = 1 := by
      rw [a2.1]
      exact ⟨fun q => by have := (nI_leI (b := 0) (by omega) (by decide)).mp q; omega, fun q => (nI_leI (b := 0) (by omega) (by decide)).mpr (by omega)⟩
    have p2 : c 155 ≤ 1 ↔ N = 1 := by
      rw [hN.1]
      exact ⟨fun q => by have := (nI_leI (b := 1) (by omega) (by decide)).mp q; omega, fun q => (nI_leI (b := 1) (by omega) (by decide)).mpr (by omega)⟩
    rw [g1, g2]
    by_cases y : N = 1
    · rw [if_pos (p1.mpr y), if_pos (p2.mpr y)]
    · rw [if_neg (fun q => y (p1.mp q)), if_neg (fun q => y (p2.mp q)), wof_fx hN12 e4 (by omega)]
      unfold tko
      rw [pk_un (by omega), tkf_at c _ _ (by omega), if_pos (by omega)]
  · rw [a5]
    grind
section LW
theorem t_L_isWorkSo (c : FA) (r : Nat → FA) (K : KR) (s : FA) (L : LS9) {n q : Nat} (hn : n < 4) (hq : q ≤ 4) {B : Nat} (h : Gdz B c) : Ct m_L_isWorkSo X0 [.ref 0] (HP c (r, nI n, nI q, K) s L []) (BKz c n K s L) := by
  obtain ⟨N, hN⟩ := h.2.2.1
  have hN12 := hN.2.1
  obtain ⟨R, hR9, hR⟩ := h.rate
  refine ⟨ok_L_isWorkSo, ?_⟩
  refine Rch.go rfl ?_
  refine Rch.call 0 (t_X8_waiting c _ s L [] _ _ hN) rfl rfl g_L_63 om_X8_waiting rfl (fun _ _ _ q => q) rfl rfl rfl rfl ⟨rfl, rfl⟩ ⟨by decide, by decide⟩ (fun _ _ q => by obtain ⟨_, rfl⟩ := q; first | with_reducible rfl | (rw [HP_len, HP_len]; done) | rfl) (fun rv9 h9 q9 => ?_)
  obtain ⟨rfl, rfl⟩ := q9
  refine Rch.go rfl ?_
  refine Rch.call 0 (t_X8_count c _ s L [] _) rfl rfl g_L_57 om_X8_count rfl (fun _ _ _ q => q) rfl rfl rfl rfl ⟨rfl, rfl⟩ ⟨by decide, by decide⟩ (fun _ _ q => by obtain ⟨_, rfl⟩ := q; first | with_reducible rfl | (rw [HP_len, HP_len]; done) | rfl) (fun rv9 h9 q9 => ?_)
  obtain ⟨rfl, rfl⟩ := q9
  rw [cou_12, hN.1]
  refine Rch.go rfl ?_
  refine Rch.call 0 (t_X8_count c _ s L [] _) rfl rfl g_L_57 om_X8_count rfl (fun _ _ _ q => q) rfl rfl rfl rfl ⟨rfl, rfl⟩ ⟨by decide, by decide⟩ (fun _ _ q => by obtain ⟨_, rfl⟩ := q; first | with_reducible rfl | (rw [HP_len, HP_len]; done) | rfl) (fun rv9 h9 q9 => ?_)
  obtain ⟨rfl, rfl⟩ := q9
  rw [cou_13]
  refine Rch.go rfl ?_
  refine Rch.call 0 (t_X8_count c _ s L [] _) rfl rfl g_L_57 om_X8_count rfl (fun _ _ _ q => q) rfl rfl rfl rfl ⟨rfl, rfl⟩ ⟨by decide, by decide⟩ (fun _ _ q => by obtain ⟨_, rfl⟩ := q; first | with_reducible rfl | (rw [HP_len, HP_len]; done) | rfl) (fun rv9 h9 q9 => ?_)
  obtain ⟨rfl, rfl⟩ := q9
  rw [cou_7]
  refine Rch.go rfl ?_
  by_cases h0 : N = 0
  · subst h0
    refine Rch.z_ne rfl (fun _ => ?_) (fun q => absurd rfl q)
    have z0 : c 155 = 0 := hN.1
    have e1 : wai c 0 2 = -1005 := by
      unfold wai
      rw [if_neg (by decide), if_pos (by rw [z0]; exact Int32.le_refl _)]
    have e2 : wrk c 1 = (-1005, none) := by
      unfold wrk
      rw [if_neg (by decide), if_pos z0]
    rw [e1]
    refine Rch.go rfl ?_
    refine Rch.i_ne rfl (fun _ => ?_) (fun q => absurd rfl q)
    refine Rch.go rfl ?_
    refine Rch.call 0 (t_X8_work c r K s L hn hq 1 hN hR (by omega)) rfl rfl g_L_36 om_X8_work rfl (fun _ _ _ q => q) rfl rfl rfl rfl ⟨rfl, rfl⟩ ⟨by decide, by decide⟩ (fun _ _ q => by obtain ⟨_, rfl⟩ := q; exact hA_len _) (fun rv9 h9 q9 => ?_)
    obtain ⟨rfl, rfl⟩ := q9
    rw [e2]
    refine Rch.go rfl ?_
    refine Rch.i_ne rfl (fun _ => ?_) (fun q => absurd rfl q)
    refine Rch.go rfl ?_
    exact Rch.ri rfl rfl rfl (by decide) (by decide) (⟨rfl, c, r, q, hq, fun _ _ => rfl, rfl⟩)
  refine Rch.z_ne rfl (fun q => absurd q (nI_ne0 (by omega) (by omega))) (fun _ => ?_)
  obtain ⟨k, b, d, e3, e4, e6, w1, w2, w3, w4, f1, f2, f3, f4, f5, f6, f7⟩ := wkz h hN (by omega) hR hR9
  rw [w4]
  refine Rch.go rfl ?_
  refine Rch.call 0 (t_X8_waiting c _ s L [] _ _ hN) rfl rfl g_L_63 om_X8_waiting rfl (fun _ _ _ q => q) rfl rfl rfl rfl ⟨rfl, rfl⟩ ⟨by decide, by decide⟩ (fun _ _ q => by obtain ⟨_, rfl⟩ := q; first | with_reducible rfl | (rw [HP_len, HP_len]; done) | rfl) (fun rv9 h9 q9 => ?_)
  obtain ⟨rfl, rfl⟩ := q9
  rw [w2]
  refine Rch.go rfl ?_
  refine Rch.call 0 (t_X8_waiting c _ s L [] _ _ hN) rfl rfl g_L_63 om_X8_waiting rfl (fun _ _ _ q => q) rfl rfl rfl rfl ⟨rfl, rfl⟩ ⟨by decide, by decide⟩ (fun _ _ q => by obtain ⟨_, rfl⟩ := q; first | with_reducible rfl | (rw [HP_len, HP_len]; done) | rfl) (fun rv9 h9 q9 => ?_)
  obtain ⟨rfl, rfl⟩ := q9
  rw [w3]
  refine Rch.go rfl ?_
  refine Rch.call 0 (t_X8_waiting c _ s L [] _ _ hN) rfl rfl g_L_63 om_X8_waiting rfl (fun _ _ _ q => q) rfl rfl rfl rfl ⟨rfl, rfl⟩ ⟨by decide, by decide⟩ (fun _ _ q => by obtain ⟨_, rfl⟩ := q; first | with_reducible rfl | (rw [HP_len, HP_len]; done) | rfl) (fun rv9 h9 q9 => ?_)
  obtain ⟨rfl, rfl⟩ := q9
  refine Rch.go rfl ?_
  refine Rch.call 0 (t_X8_count c _ s L [] _) rfl rfl g_L_57 om_X8_count rfl (fun _ _ _ q => q) rfl rfl rfl rfl ⟨rfl, rfl⟩ ⟨by decide, by decide⟩ (fun _ _ q => by obtain ⟨_, rfl⟩ := q; first | with_reducible rfl | (rw [HP_len, HP_len]; done) | rfl) (fun rv9 h9 q9 => ?_)
  obtain ⟨rfl, rfl⟩ := q9
  rw [cou_6]
  refine Rch.go rfl ?_
  refine Rch.call 0 (t_X8_count c _ s L [] _) rfl rfl g_L_57 om_X8_count rfl (fun _ _ _ q => q) rfl rfl rfl rfl ⟨rfl, rfl⟩ ⟨by decide, by decide⟩ (fun _ _ q => by obtain ⟨_, rfl⟩ := q; first | with_reducible rfl | (rw [HP_len, HP_len]; done) | rfl) (fun rv9 h9 q9 => ?_)
  obtain ⟨rfl, rfl⟩ := q9
  rw [cou_10]
  refine Rch.go rfl ?_
  refine Rch.call 0 (t_X8_count c _ s L [] _) rfl rfl g_L_57 om_X8_count rfl (fun _ _ _ q => q) rfl rfl rfl rfl ⟨rfl, rfl⟩ ⟨by decide, by decide⟩ (fun _ _ q => by obtain ⟨_, rfl⟩ := q; first | with_reducible rfl | (rw [HP_len, HP_len]; done) | rfl) (fun rv9 h9 q9 => ?_)
  obtain ⟨rfl, rfl⟩ := q9
  rw [cou_3]
  refine Rch.go rfl ?_
  refine Rch.call 0 (t_X8_count c _ s L [] _) rfl rfl g_L_57 om_X8_count rfl (fun _ _ _ q => q) rfl rfl rfl rfl ⟨rfl, rfl⟩ ⟨by decide, by decide⟩ (fun _ _ q => by obtain ⟨_, rfl⟩ := q; first | with_reducible rfl | (rw [HP_len, HP_len]; done) | rfl) (fun rv9 h9 q9 => ?_)
  obtain ⟨rfl, rfl⟩ := q9
  rw [cou_18]
  have fin : ∀ v10 : Int32, (v10 = 0 → dpz c) → Rch m_L_isWorkSo X0 (114, [(0, .ref 0), (1, .int (rsn c k b)), (2, .int (nI N)), (3, .int (c 160)), (4, .int (c 156)), (5, .int (nI k)), (6, .int (nI b)), (7, .int (wai c 1 1)), (8, .int (pzT c)), (9, .int (lostS c))], [.int v10], HP c (r, nI n, nI q, K) s L [], 0, 0) (RetP m_L_isWorkSo (BKz c n K s L)) := by
    intro v10 hv10
    have q1 : (if q < 4 then q + 1 else 4) ≤ 4 ∧ 0 < (if q < 4 then q + 1 else 4) := by split <;> omega
    have q2 : ¬ (if q < 4 then q + 1 else 4) = 0 := by omega
    have en : ((n + 1) % 4 + 3) % 4 = n := by omega
    have ec : ∀ j, j < 162 → cp (vup r n (cp c (r n)) n) d j = c j := by
      intro j hj
      have g1 : vup r n (cp c (r n)) n = cp c (r n) := if_pos rfl
      rw [g1]
      show (if j < 162 then (if j < 162 then c j else r n j) else d j) = c j
      rw [if_pos hj, if_pos hj]
    have fin6 : Rch m_L_isWorkSo X0 (285, [(0, .ref 0), (1, .int (rsn c k b)), (2, .int (nI N)), (3, .int (c 160)), (4, .int (c 156)), (5, .int (nI k)), (6, .int (nI b)), (7, .int (wai c 1 1)), (8, .int (pzT c)), (9, .int (lostS c)), (10, .int (v10)), (11, .int (d 160 - c 160)), (12, .int (1))], [], HP d (vup r n (cp c (r n)), nI ((n + 1) % 4), nI (if q < 4 then q + 1 else 4), K) s L [], 0, 0) (RetP m_L_isWorkSo (BKz c n K s L)) := by
      refine Rch.go rfl ?_
      refine Rch.call 0 (t_X8_undo d _ K s L (Nat.mod_lt _ (by decide)) q1.1) rfl rfl g_L_66 om_X8_undo rfl (fun _ _ _ q => q) rfl rfl rfl rfl ⟨rfl, rfl⟩ ⟨by decide, by decide⟩ (fun _ _ q => by obtain ⟨_, rfl⟩ := q; first | with_reducible rfl | (rw [HP_len, HP_len]; done) | rfl) (fun rv9 h9 q9 => ?_)
      obtain ⟨rfl, rfl⟩ := q9
      rw [if_neg q2, if_neg q2, if_neg q2, en]
      refine Rch.go rfl ?_
      refine Rch.z_eq rfl (fun q => absurd q (by decide)) (fun _ => ?_)
      refine Rch.go rfl ?_
      refine Rch.z_lt rfl (fun z => absurd z (nI_pos (by omega))) (fun _ => ?_)
      refine Rch.go rfl ?_
      refine Rch.call 0 (t_X8_count _ _ s L [] _) rfl rfl g_L_57 om_X8_count rfl (fun _ _ _ q => q) rfl rfl rfl rfl ⟨rfl, rfl⟩ ⟨by decide, by decide⟩ (fun _ _ q => by obtain ⟨_, rfl⟩ := q; first | with_reducible rfl | (rw [HP_len, HP_len]; done) | rfl) (fun rv9 h9 q9 => ?_)
      obtain ⟨rfl, rfl⟩ := q9
      rw [cou_12, ec 155 (by decide), hN.1]
      refine Rch.go rfl ?_
      refine Rch.i_ne rfl (fun _ => ?_) (fun q => absurd rfl q)
      refine Rch.go rfl ?_
      exact Rch.ri rfl rfl rfl (by decide) (by decide) (⟨rfl, _, _, _, by omega, ec, rfl⟩)
    have fin5 : Rch m_L_isWorkSo X0 (260, [(0, .ref 0), (1, .int (rsn c k b)), (2, .int (nI N)), (3, .int (c 160)), (4, .int (c 156)), (5, .int (nI k)), (6, .int (nI b)), (7, .int (wai c 1 1)), (8, .int (pzT c)), (9, .int (lostS c)), (10, .int (v10)), (11, .int (d 160 - c 160)), (12, .int (1))], [], HP d (vup r n (cp c (r n)), nI ((n + 1) % 4), nI (if q < 4 then q + 1 else 4), K) s L [], 0, 0) (RetP m_L_isWorkSo (BKz c n K s L)) := by
      refine Rch.go rfl ?_
      refine Rch.i_ne rfl (fun z => ?_) (fun z => ?_)
      · have hk : k = 2 := (nI_eq (b := 2) (by omega) (by decide)).mp z
        refine Rch.go rfl ?_
        refine Rch.z_ne rfl (fun z2 => ?_) (fun z2 => ?_)
        · refine Rch.go rfl ?_
          refine Rch.call 0 (t_X8_count d _ s L [] _) rfl rfl g_L_57 om_X8_count rfl (fun _ _ _ q => q) rfl rfl rfl rfl ⟨rfl, rfl⟩ ⟨by decide, by decide⟩ (fun _ _ q => by obtain ⟨_, rfl⟩ := q; first | with_reducible rfl | (rw [HP_len, HP_len]; done) | rfl) (fun rv9 h9 q9 => ?_)
          obtain ⟨rfl, rfl⟩ := q9
          rw [cou_3]
          refine Rch.go rfl ?_
          refine Rch.call 0 (t_X8_count d _ s L [] _) rfl rfl g_L_57 om_X8_count rfl (fun _ _ _ q => q) rfl rfl rfl rfl ⟨rfl, rfl⟩ ⟨by decide, by decide⟩ (fun _ _ q => by obtain ⟨_, rfl⟩ := q; first | with_reducible rfl | (rw [HP_len, HP_len]; done) | rfl) (fun rv9 h9 q9 => ?_)
          obtain ⟨rfl, rfl⟩ := q9
          rw [cou_18]
          refine Rch.i_gt rfl (fun q => absurd (f7 hk (hv10 z2)) (Int32.not_le.mpr q)) (fun _ => ?_)
          exact fin6
        · exact fin6
      · exact fin6
    have fin4 : Rch m_L_isWorkSo X0 (233, [(0, .ref 0), (1, .int (rsn c k b)), (2, .int (nI N)), (3, .int (c 160)), (4, .int (c 156)), (5, .int (nI k)), (6, .int (nI b)), (7, .int (wai c 1 1)), (8, .int (pzT c)), (9, .int (lostS c)), (10, .int (v10)), (11, .int (d 160 - c 160)), (12, .int (1))], [], HP d (vup r n (cp c (r n)), nI ((n + 1) % 4), nI (if q < 4 then q + 1 else 4), K) s L [], 0, 0) (RetP m_L_isWorkSo (BKz c n K s L)) := by
      refine Rch.go rfl ?_
      refine Rch.i_ne rfl (fun z => ?_) (fun z => ?_)
      · have hk : k = 4 := (nI_eq (b := 4) (by omega) (by decide)).mp z
        refine Rch.go rfl ?_
        refine Rch.call 0 (t_X8_count d _ s L [] _) rfl rfl g_L_57 om_X8_count rfl (fun _ _ _ q => q) rfl rfl rfl rfl ⟨rfl, rfl⟩ ⟨by decide, by decide⟩ (fun _ _ q => by obtain ⟨_, rfl⟩ := q; first | with_reducible rfl | (rw [HP_len, HP_len]; done) | rfl) (fun rv9 h9 q9 => ?_)
        obtain ⟨rfl, rfl⟩ := q9
        rw [cou_6]
        refine Rch.go rfl ?_
        refine Rch.call 0 (t_X8_count d _ s L [] _) rfl rfl g_L_57 om_X8_count rfl (fun _ _ _ q => q) rfl rfl rfl rfl ⟨rfl, rfl⟩ ⟨by decide, by decide⟩ (fun _ _ q => by obtain ⟨_, rfl⟩ := q; first | with_reducible rfl | (rw [HP_len, HP_len]; done) | rfl) (fun rv9 h9 q9 => ?_)
        obtain ⟨rfl, rfl⟩ := q9
        rw [cou_10]
        refine Rch.go rfl ?_
        refine Rch.i_ne rfl (fun _ => ?_) (fun q => absurd (f6 hk) q)
        exact fin5
      · exact fin5
    have fin3 : ∀ w : Int32, w = (if rsn c k b = 0 ∧ 2 ≤ k then nI b else 0) → Rch m_L_isWorkSo X0 (209, [(0, .ref 0), (1, .int (rsn c k b)), (2, .int (nI N)), (3, .int (c 160)), (4, .int (c 156)), (5, .int (nI k)), (6, .int (nI b)), (7, .int (wai c 1 1)), (8, .int (pzT c)), (9, .int (lostS c)), (10, .int (v10)), (11, .int (d 160 - c 160)), (12, .int (1))], [.int w, .int (c 156), .int (d 156)], HP d (vup r n (cp c (r n)), nI ((n + 1) % 4), nI (if q < 4 then q + 1 else 4), K) s L [], 0, 0) (RetP m_L_isWorkSo (BKz c n K s L)) := by
      intro w hw
      subst hw
      refine Rch.st 1 rfl ?_
      refine Rch.i_ne rfl (fun _ => ?_) (fun q => absurd f3 q)
      refine Rch.go rfl ?_
      refine Rch.i_gt rfl (fun z => ?_) (fun z => ?_)
      · exact fin4
      · have hk : k < 2 := Nat.not_le.mp (fun q => z ((nI_ltI (a := 1) (by decide) (by omega)).mpr (by omega)))
        refine Rch.go rfl ?_
        refine Rch.call 0 (t_X8_group d _ s L [] _ _) rfl rfl g_L_48 om_X8_group rfl (fun _ _ _ q => q) rfl rfl rfl rfl ⟨rfl, rfl⟩ ⟨by decide, by decide⟩ (fun _ _ q => by obtain ⟨_, rfl⟩ := q; first | with_reducible rfl | (rw [HP_len, HP_len]; done) | rfl) (fun rv9 h9 q9 => ?_)
        obtain ⟨rfl, rfl⟩ := q9
        rw [grp_1 (e4 hk)]
        refine Rch.go rfl ?_
        refine Rch.i_ne rfl (fun _ => ?_) (fun q => absurd ?_ q)
        · exact fin4
        · rw [f5 hk]
          match k, hk with
          | 0, _ => decide
          | 1, _ => decide
          | k + 2, q => exact absurd q (by omega)
    have fin2 : ∀ w : Int32, w = d 160 - c 160 → Rch m_L_isWorkSo X0 (134, [(0, .ref 0), (1, .int (rsn c k b)), (2, .int (nI N)), (3, .int (c 160)), (4, .int (c 156)), (5, .int (nI k)), (6, .int (nI b)), (7, .int (wai c 1 1)), (8, .int (pzT c)), (9, .int (lostS c)), (10, .int (v10)), (11, .int (d 160 - c 160))], [.int w, .int (d 160 - c 160)], HP d (vup r n (cp c (r n)), nI ((n + 1) % 4), nI (if q < 4 then q + 1 else 4), K) s L [], 0, 0) (RetP m_L_isWorkSo (BKz c n K s L)) := by
      intro w hw
      refine Rch.i_ne rfl (fun _ => ?_) (fun q => absurd hw.symm q)
      refine Rch.go rfl ?_
      refine Rch.call 0 (t_X8_count d _ s L [] _) rfl rfl g_L_57 om_X8_count rfl (fun _ _ _ q => q) rfl rfl rfl rfl ⟨rfl, rfl⟩ ⟨by decide, by decide⟩ (fun _ _ q => by obtain ⟨_, rfl⟩ := q; first | with_reducible rfl | (rw [HP_len, HP_len]; done) | rfl) (fun rv9 h9 q9 => ?_)
      obtain ⟨rfl, rfl⟩ := q9
      rw [cou_12, f1.1]
      refine Rch.go rfl ?_
      refine Rch.i_ne rfl (fun _ => ?_) (fun q => absurd (nI_sub (b := 1) (by omega)).symm q)
      refine Rch.go rfl ?_
      refine Rch.call 0 (t_X8_count d _ s L [] _) rfl rfl g_L_57 om_X8_count rfl (fun _ _ _ q => q) rfl rfl rfl rfl ⟨rfl, rfl⟩ ⟨by decide, by decide⟩ (fun _ _ q => by obtain ⟨_, rfl⟩ := q; first | with_reducible rfl | (rw [HP_len, HP_len]; done) | rfl) (fun rv9 h9 q9 => ?_)
      obtain ⟨rfl, rfl⟩ := q9
      rw [cou_13]
      refine Rch.go rfl ?_
      refine Rch.i_ne rfl (fun _ => ?_) (fun q => absurd (by grind) q)
      refine Rch.go rfl ?_
      refine Rch.call 0 (t_X8_waiting d _ s L [] _ _ f1) rfl rfl g_L_63 om_X8_waiting rfl (fun _ _ _ q => q) rfl rfl rfl rfl ⟨rfl, rfl⟩ ⟨by decide, by decide⟩ (fun _ _ q => by obtain ⟨_, rfl⟩ := q; first | with_reducible rfl | (rw [HP_len, HP_len]; done) | rfl) (fun rv9 h9 q9 => ?_)
      obtain ⟨rfl, rfl⟩ := q9
      refine Rch.go rfl ?_
      refine Rch.i_ne rfl (fun _ => ?_) (fun q => absurd f2 q)
      refine Rch.go rfl ?_
      refine Rch.z_eq rfl (fun q => absurd q (by decide)) (fun _ => ?_)
      refine Rch.go rfl ?_
      refine Rch.call 0 (t_X8_count d _ s L [] _) rfl rfl g_L_57 om_X8_count rfl (fun _ _ _ q => q) rfl rfl rfl rfl ⟨rfl, rfl⟩ ⟨by decide, by decide⟩ (fun _ _ q => by obtain ⟨_, rfl⟩ := q; first | with_reducible rfl | (rw [HP_len, HP_len]; done) | rfl) (fun rv9 h9 q9 => ?_)
      obtain ⟨rfl, rfl⟩ := q9
      rw [cou_7]
      refine Rch.go rfl ?_
      refine Rch.i_le rfl (fun z => ?_) (fun z => ?_)
      · have hk : ¬ (rsn c k b = 0 ∧ 2 ≤ k) := fun q => by
          have := (nI_leI (b := 1) (by omega) (by decide)).mp z
          omega
        refine Rch.st 1 rfl ?_
        exact fin3 0 (if_neg hk).symm
      · have hk : 2 ≤ k := Nat.not_lt.mp (fun q => z ((nI_leI (b := 1) (by omega) (by decide)).mpr (by omega)))
        refine Rch.go rfl ?_
        refine Rch.z_ne rfl (fun z2 => ?_) (fun z2 => ?_)
        · refine Rch.st 2 rfl ?_
          exact fin3 _ (if_pos ⟨z2, hk⟩).symm
        · refine Rch.st 1 rfl ?_
          exact fin3 0 (if_neg (fun q => z2 q.1)).symm
    refine Rch.go rfl ?_
    refine Rch.call 0 (t_X8_work c r K s L hn hq 1 hN hR (by omega)) rfl rfl g_L_36 om_X8_work rfl (fun _ _ _ q => q) rfl rfl rfl rfl ⟨rfl, rfl⟩ ⟨by decide, by decide⟩ (fun _ _ q => by obtain ⟨_, rfl⟩ := q; exact hA_len _) (fun rv9 h9 q9 => ?_)
    obtain ⟨rfl, rfl⟩ := q9
    rw [w1]
    refine Rch.st 3 rfl ?_
    have hb := rsn_bd c k b
    by_cases z : rsn c k b = 0
    · refine Rch.z_le rfl (fun _ => ?_) (fun q => absurd (by rw [z]; exact Int32.le_refl _) q)
      refine Rch.st 1 rfl ?_
      exact fin2 0 (by rw [f4, if_pos z])
    · refine Rch.z_le rfl (fun q => absurd (pzE (by have := pzle q; rw [show (0 : Int32).toInt = 0 from rfl] at this ⊢; omega)) z) (fun _ => ?_)
      refine Rch.st 2 rfl ?_
      exact fin2 1 (by rw [f4, if_neg z])
  refine Rch.i_le rfl (fun z => ?_) (fun z => ?_)
  · refine Rch.st 1 rfl ?_
    exact fin 0 (fun _ => z)
  · refine Rch.st 2 rfl ?_
    exact fin 1 (fun q => absurd q (by decide))
end LW
end
section
/-! ===== the law: soundings are so ===== -/
theorem Gdz.snd {B : Nat} {c : FA} (h : Gdz B c) : ∀ j, j < 8 → ∃ k, k ≤ 3 ∧ c (32 + j) = nI k := by
  intro j hj
  have b := h.1.s hj
  obtain ⟨k, e1, e2, e3⟩ := pzK (a := c (32 + j)) (by omega)
  exact ⟨k, by omega, e1⟩
theorem snd_up {c : FA} (h : Rgz c) {j : Nat} (hj : j < 8) : (snd9 c j (32 + j)).toInt = if 3 ≤ (c (32 + j)).toInt then 3 else (c (32 + j)).toInt + 1 := by
  have b := h.s hj
  have i1 : (1 : Int32).toInt = 1 := rfl
  have e1 : (c (32 + j) + 1).toInt = (c (32 + j)).toInt + 1 := by rw [pzA (by omega) (by omega), i1]
  rw [snd_ks hj]
  by_cases z : 3 < c (32 + j) + 1
  · rw [if_pos z]
    rw [Int32.lt_iff_toInt_lt, e1, show (3 : Int32).toInt = 3 from rfl] at z
    rw [if_pos (by omega)]
    rfl
  · rw [if_neg z]
    rw [Int32.lt_iff_toInt_lt, e1, show (3 : Int32).toInt = 3 from rfl] at z
    rw [if_neg (by omega), e1]
theorem sng_z {c : FA} {j b : Nat} (z : Int32) (hj : j < 8) (hb : b < 2) (h2 : 2 ≤ (c (32 + j)).toInt) : sng c (nI j) (nI b) z = if z = 0 then c (64 + (j * 3 + b)) else c (40 + (j * 3 + b)) := by
  have hb2 : (nI b).toInt = b := nI_toInt (by omega)
  unfold sng
  rw [if_neg (fun q => q (in7z hj)), if_neg (nI_pos (by omega)), ix_nI (by omega), ix_nI (by omega), if_neg (by rw [Int32.le_iff_toInt_le, hb2]; omega)]
theorem soz {B : Nat} {c : FA} (h : Gdz B c) {j : Nat} (hj : j < 8) (x : Int32) (R i : Nat) {c1 c2 c3 : FA} (e1 : c1 = snd9 c j) (e2 : c2 = mns (-1) x R c1 i) (e3 : c3 = snd9 c2 j) :
    c3 j = c1 j - (c2 (16 + j) - c1 (16 + j)) ∧ tnk c3 (nI j) 5 = c2 (16 + j) - c1 (16 + j) ∧ sng c3 (nI j) 0 0 = c1 j - (c2 (16 + j) - c1 (16 + j)) ∧ sng c3 (nI j) 1 0 = c1 j ∧ sng c3 (nI j) 1 1 = c1 156 ∧ sng c3 (nI j) 0 1 = c1 156 + nI i ∧ lst c3 = lst c2 ∧ c1 156 = c 156 := by
  have G1 : Gdz B c1 := by rw [e1]; exact snd_G h hj
  have G2 : Gdz (B + i) c2 := by rw [e2]; exact mns_G G1 i
  have k1 : 1 ≤ (c1 (32 + j)).toInt := by
    rw [e1, snd_up h.1 hj]
    have := h.1.s hj
    split <;> omega
  have k2 : c2 (32 + j) = c1 (32 + j) := by rw [e2]; exact mns_off_un (by omega) (by omega) i
  have k3 : 2 ≤ (c3 (32 + j)).toInt := by
    rw [e3, snd_up G2.1 hj, k2]
    split <;> omega
  have hl : c2 j + c2 (16 + j) = c1 j + c1 (16 + j) := by rw [e2]; exact mns_wl hj i
  have a0 : c3 j = c2 j := by rw [e3]; exact snd_lo hj (by omega)
  have aw : c1 j = c j := by rw [e1]; exact snd_lo hj (by omega)
  have am : c1 156 = c 156 := by rw [e1]; exact snd_lo hj (by omega)
  obtain ⟨b1, b2, b3⟩ := snd_0 (c := c2) hj
  obtain ⟨b4, b5, b6⟩ := snd_1 (c := c2) hj
  obtain ⟨d1, d2, d3⟩ := snd_0 (c := c) hj
  rw [← e3] at b1 b2 b3 b4 b5 b6
  rw [← e1] at d1 d2 d3
  have m1 : c2 (40 + (j * 3 + 0)) = c1 (40 + (j * 3 + 0)) := by rw [e2]; exact mns_off_un (by omega) (by omega) i
  have m2 : c2 (64 + (j * 3 + 0)) = c1 (64 + (j * 3 + 0)) := by rw [e2]; exact mns_off_un (by omega) (by omega) i
  have m3 : c2 (88 + (j * 3 + 0)) = c1 (88 + (j * 3 + 0)) := by rw [e2]; exact mns_off_un (by omega) (by omega) i
  have m4 : c2 (24 + j) = c1 (24 + j) := by rw [e2]; exact mns_off_un (by omega) (by omega) i
  have m5 : c1 (24 + j) = c (24 + j) := by rw [e1]; exact snd_lo hj (by omega)
  have m6 : c2 156 = c1 156 + nI i := by rw [e2]; exact mns_156 _ _ _ _ i
  have hd : c2 j = c1 j - (c2 (16 + j) - c1 (16 + j)) := by grind
  refine ⟨a0.trans hd, ?_, ?_, ?_, ?_, ?_, ?_, am⟩
  · rw [tnk_5 hj, if_pos ⟨by rw [Int32.le_iff_toInt_le, show (2 : Int32).toInt = 2 from rfl]; exact k3, by rw [b3, b6, m3, d3, m4, m5]⟩]
    unfold los
    rw [b5, m2, d2, b2, hd, ← aw]
    grind
  · rw [show sng c3 (nI j) 0 0 = _ from sng_z (b := 0) 0 hj (by decide) k3, if_pos rfl, b2]
    exact hd
  · rw [show sng c3 (nI j) 1 0 = _ from sng_z (b := 1) 0 hj (by decide) k3, if_pos rfl, b5, m2, d2, aw]
  · rw [show sng c3 (nI j) 1 1 = _ from sng_z (b := 1) 1 hj (by decide) k3, if_neg (by decide), b4, m1, d1, am]
  · rw [show sng c3 (nI j) 0 1 = _ from sng_z (b := 0) 1 hj (by decide) k3, if_neg (by decide), b1, m6]
  · have hu : ∀ i, i < 32 ∨ 112 ≤ i → c3 i = c2 i := fun i hi => by rw [e3]; exact snd_lo hj hi
    have el : lmo c3 = lmo c2 := by
      unfold lmo
      rw [show fs 0 (fun t => c3 t * sidA (t % 2)) 8 = fs 0 (fun t => c2 t * sidA (t % 2)) 8 from fs_cong 8 (fun k hk => by show c3 k * sidA (k % 2) = c2 k * sidA (k % 2); rw [hu k (by omega)])]
      exact fs_cong 3 (fun k hk => by show c3 (112 + k) * c3 (115 + k) = c2 (112 + k) * c2 (115 + k); rw [hu (112 + k) (by omega), hu (115 + k) (by omega)])
    have ew : wgt c3 = wgt c2 := by
      rw [wgt_pz, wgt_pz, show pzT c3 = pzT c2 from fs_cong 8 (fun k hk => hu k (by omega)), show pzL c3 = pzL c2 from fs_cong 3 (fun k hk => hu (112 + k) (by omega))]
    unfold lst
    rw [el, ew]
/-- three acts and three undos bring back what was -/
theorem un3z {c c1 c2 c3 : FA} {r : Nat → FA} {n : Nat} (hn : n < 4) {r1 r2 r3 : Nat → FA} {n1 n2 : Nat} (hn1 : n1 = (n + 1) % 4) (hn2 : n2 = (n1 + 1) % 4) (h1 : r1 = vup r n (cp c (r n))) (h2 : r2 = vup r1 n1 (cp c1 (r1 n1))) (h3 : r3 = vup r2 n2 (cp c2 (r2 n2))) (j : Nat) (hj : j < 162) :
    cp (r3 n) (cp (r3 n1) (cp (r3 n2) c3)) j = c j := by
  have e1 : r3 n = cp c (r n) := by
    rw [h3, show vup r2 n2 (cp c2 (r2 n2)) n = r2 n from if_neg (by omega), h2, show vup r1 n1 (cp c1 (r1 n1)) n = r1 n from if_neg (by omega), h1]
    exact if_pos rfl
  rw [e1]
  show (if j < 162 then (if j < 162 then c j else r n j) else _) = c j
  rw [if_pos hj, if_pos hj]
section LN
theorem t_L_isSoundSo (c : FA) (r : Nat → FA) (K : KR) (s : FA) (L : LS9) {n q : Nat} (hn : n < 4) (hq : q ≤ 4) {B j i : Nat} (h : Gdz B c) (hj : j < 8) (hi1 : 1 ≤ i) (hi : i ≤ 25) : Ct m_L_isSoundSo X0 [.ref 0, .int (nI j), .int (nI i)] (HP c (r, nI n, nI q, K) s L []) (BKz c n K s L) := by
  obtain ⟨R, hR9, hR⟩ := h.rate
  have hR2 : R < 2 ^ 31 := by omega
  have hs1 : sou c (nI j) = (snd9 c j j, some (snd9 c j)) := by
    unfold sou
    rw [if_neg (fun q => q (in7z hj)), ix_nI (by omega)]
  have hs2 : ∀ d : FA, sou d (nI j) = (snd9 d j j, some (snd9 d j)) := by
    intro d
    unfold sou
    rw [if_neg (fun q => q (in7z hj)), ix_nI (by omega)]
  have hp : ∀ d : FA, pas d (nI i) R = (lst (mns (-1) (opn d 5) R d i), some (mns (-1) (opn d 5) R d i)) := by
    intro d
    unfold pas
    rw [if_neg (fun q => q ⟨(nI_leI (a := 1) (by decide) (by omega)).mpr hi1, (nI_leI (b := 200) (by omega) (by decide)).mpr (by omega)⟩), ix_nI (by omega)]
  obtain ⟨c1, e1⟩ : ∃ c1, c1 = snd9 c j := ⟨_, rfl⟩
  obtain ⟨c2, e2⟩ : ∃ c2, c2 = mns (-1) (opn c1 5) R c1 i := ⟨_, rfl⟩
  obtain ⟨c3, e3⟩ : ∃ c3, c3 = snd9 c2 j := ⟨_, rfl⟩
  have G1 : Gdz B c1 := by rw [e1]; exact snd_G h hj
  have G2 : Gdz (B + i) c2 := by rw [e2]; exact mns_G G1 i
  have G3 : Gdz (B + i) c3 := by rw [e3]; exact snd_G G2 hj
  have hR1 : c1 128 = nI R := by rw [e1, snd_lo hj (by omega)]; exact hR
  obtain ⟨s1, s2, s3, s4, s5, s6, s7, s8⟩ := soz h hj (opn c1 5) R i e1 e2 e3
  have hs1 : sou c (nI j) = (c1 j, some c1) := by rw [e1]; exact hs1
  have hp : pas c1 (nI i) R = (lst c2, some c2) := by rw [e2]; exact hp c1
  have hs2 : sou c2 (nI j) = (c3 j, some c3) := by rw [e3]; exact hs2 c2
  clear e1 e2 e3
  obtain ⟨n1, f1⟩ : ∃ n1, n1 = (n + 1) % 4 := ⟨_, rfl⟩
  obtain ⟨n2, f2⟩ : ∃ n2, n2 = (n1 + 1) % 4 := ⟨_, rfl⟩
  obtain ⟨n3, f3⟩ : ∃ n3, n3 = (n2 + 1) % 4 := ⟨_, rfl⟩
  obtain ⟨q1, g1⟩ : ∃ q1, q1 = (if q < 4 then q + 1 else 4) := ⟨_, rfl⟩
  obtain ⟨q2, g2⟩ : ∃ q2, q2 = (if q1 < 4 then q1 + 1 else 4) := ⟨_, rfl⟩
  obtain ⟨q3, g3⟩ : ∃ q3, q3 = (if q2 < 4 then q2 + 1 else 4) := ⟨_, rfl⟩
  obtain ⟨r1, p1⟩ : ∃ r1, r1 = vup r n (cp c (r n)) := ⟨_, rfl⟩
  obtain ⟨r2, p2⟩ : ∃ r2, r2 = vup r1 n1 (cp c1 (r1 n1)) := ⟨_, rfl⟩
  obtain ⟨r3, p3⟩ : ∃ r3, r3 = vup r2 n2 (cp c2 (r2 n2)) := ⟨_, rfl⟩
  have hq1 : q1 ≤ 4 ∧ 1 ≤ q1 := by rw [g1]; split <;> omega
  have hq2 : q2 ≤ 4 ∧ 2 ≤ q2 := by rw [g2]; split <;> omega
  have hq3 : q3 ≤ 4 ∧ 3 ≤ q3 := by rw [g3]; split <;> omega
  have b1 : hA c r n q K s L (some c1) = HP c1 (r1, nI n1, nI q1, K) s L [] := by rw [p1, f1, g1]; rfl
  have b2 : hA c1 r1 n1 q1 K s L (some c2) = HP c2 (r2, nI n2, nI q2, K) s L [] := by rw [p2, f2, g2]; rfl
  have b3 : hA c2 r2 n2 q2 K s L (some c3) = HP c3 (r3, nI n3, nI q3, K) s L [] := by rw [p3, f3, g3]; rfl
  have ec := un3z (c3 := c3) hn f1 f2 p1 p2 p3
  have t3 : (n3 + 3) % 4 = n2 := by omega
  have t2 : (n2 + 3) % 4 = n1 := by omega
  have t1 : (n1 + 3) % 4 = n := by omega
  clear g1 g2 g3 p1 p2 p3
  refine ⟨ok_L_isSoundSo, ?_⟩
  refine Rch.go rfl ?_
  refine Rch.call 0 (t_X8_sound c r K s L hn hq _) rfl rfl g_L_39 om_X8_sound rfl (fun _ _ _ q => q) rfl rfl rfl rfl ⟨rfl, rfl⟩ ⟨by decide, by decide⟩ (fun _ _ q => by obtain ⟨_, rfl⟩ := q; exact hA_len _) (fun rv9 h9 q9 => ?_)
  obtain ⟨rfl, rfl⟩ := q9
  rw [hs1, b1]
  refine Rch.go rfl ?_
  refine Rch.call 0 (t_X8_tank c1 _ s L [] _ _) rfl rfl g_L_45 om_X8_tank rfl (fun _ _ _ q => q) rfl rfl rfl rfl ⟨rfl, rfl⟩ ⟨by decide, by decide⟩ (fun _ _ q => by obtain ⟨_, rfl⟩ := q; first | with_reducible rfl | (rw [HP_len, HP_len]; done) | rfl) (fun rv9 h9 q9 => ?_)
  obtain ⟨rfl, rfl⟩ := q9
  rw [tnk_6 hj]
  refine Rch.go rfl ?_
  refine Rch.call 0 (t_X8_count c1 _ s L [] _) rfl rfl g_L_57 om_X8_count rfl (fun _ _ _ q => q) rfl rfl rfl rfl ⟨rfl, rfl⟩ ⟨by decide, by decide⟩ (fun _ _ q => by obtain ⟨_, rfl⟩ := q; first | with_reducible rfl | (rw [HP_len, HP_len]; done) | rfl) (fun rv9 h9 q9 => ?_)
  obtain ⟨rfl, rfl⟩ := q9
  rw [cou_7]
  refine Rch.go rfl ?_
  refine Rch.call 0 (t_X8_pass c1 r1 K s L (by omega) hq1.1 _ hR1 hR2) rfl rfl g_L_42 om_X8_pass rfl (fun _ _ _ q => q) rfl rfl rfl rfl ⟨rfl, rfl⟩ ⟨by decide, by decide⟩ (fun _ _ q => by obtain ⟨_, rfl⟩ := q; exact hA_len _) (fun rv9 h9 q9 => ?_)
  obtain ⟨rfl, rfl⟩ := q9
  rw [hp, b2]
  refine Rch.go rfl ?_
  refine Rch.call 0 (t_X8_tank c2 _ s L [] _ _) rfl rfl g_L_45 om_X8_tank rfl (fun _ _ _ q => q) rfl rfl rfl rfl ⟨rfl, rfl⟩ ⟨by decide, by decide⟩ (fun _ _ q => by obtain ⟨_, rfl⟩ := q; first | with_reducible rfl | (rw [HP_len, HP_len]; done) | rfl) (fun rv9 h9 q9 => ?_)
  obtain ⟨rfl, rfl⟩ := q9
  rw [tnk_6 hj]
  refine Rch.go rfl ?_
  refine Rch.call 0 (t_X8_sound c2 r2 K s L (by omega) hq2.1 _) rfl rfl g_L_39 om_X8_sound rfl (fun _ _ _ q => q) rfl rfl rfl rfl ⟨rfl, rfl⟩ ⟨by decide, by decide⟩ (fun _ _ q => by obtain ⟨_, rfl⟩ := q; exact hA_len _) (fun rv9 h9 q9 => ?_)
  obtain ⟨rfl, rfl⟩ := q9
  rw [hs2, b3]
  refine Rch.go rfl ?_
  refine Rch.i_ne rfl (fun _ => ?_) (fun q => absurd s1 q)
  refine Rch.go rfl ?_
  refine Rch.call 0 (t_X8_tank c3 _ s L [] _ _) rfl rfl g_L_45 om_X8_tank rfl (fun _ _ _ q => q) rfl rfl rfl rfl ⟨rfl, rfl⟩ ⟨by decide, by decide⟩ (fun _ _ q => by obtain ⟨_, rfl⟩ := q; first | with_reducible rfl | (rw [HP_len, HP_len]; done) | rfl) (fun rv9 h9 q9 => ?_)
  obtain ⟨rfl, rfl⟩ := q9
  refine Rch.go rfl ?_
  refine Rch.i_ne rfl (fun _ => ?_) (fun q => absurd s2 q)
  refine Rch.go rfl ?_
  refine Rch.call 0 (t_X8_sounding c3 _ s L [] _ _ _ G3.snd) rfl rfl g_L_73 om_X8_sounding rfl (fun _ _ _ q => q) rfl rfl rfl rfl ⟨rfl, rfl⟩ ⟨by decide, by decide⟩ (fun _ _ q => by obtain ⟨_, rfl⟩ := q; first | with_reducible rfl | (rw [HP_len, HP_len]; done) | rfl) (fun rv9 h9 q9 => ?_)
  obtain ⟨rfl, rfl⟩ := q9
  refine Rch.go rfl ?_
  refine Rch.i_ne rfl (fun _ => ?_) (fun q => absurd s3 q)
  refine Rch.go rfl ?_
  refine Rch.call 0 (t_X8_sounding c3 _ s L [] _ _ _ G3.snd) rfl rfl g_L_73 om_X8_sounding rfl (fun _ _ _ q => q) rfl rfl rfl rfl ⟨rfl, rfl⟩ ⟨by decide, by decide⟩ (fun _ _ q => by obtain ⟨_, rfl⟩ := q; first | with_reducible rfl | (rw [HP_len, HP_len]; done) | rfl) (fun rv9 h9 q9 => ?_)
  obtain ⟨rfl, rfl⟩ := q9
  refine Rch.go rfl ?_
  refine Rch.i_ne rfl (fun _ => ?_) (fun q => absurd s4 q)
  refine Rch.go rfl ?_
  refine Rch.call 0 (t_X8_sounding c3 _ s L [] _ _ _ G3.snd) rfl rfl g_L_73 om_X8_sounding rfl (fun _ _ _ q => q) rfl rfl rfl rfl ⟨rfl, rfl⟩ ⟨by decide, by decide⟩ (fun _ _ q => by obtain ⟨_, rfl⟩ := q; first | with_reducible rfl | (rw [HP_len, HP_len]; done) | rfl) (fun rv9 h9 q9 => ?_)
  obtain ⟨rfl, rfl⟩ := q9
  refine Rch.go rfl ?_
  refine Rch.i_ne rfl (fun _ => ?_) (fun q => absurd s5 q)
  refine Rch.go rfl ?_
  refine Rch.call 0 (t_X8_sounding c3 _ s L [] _ _ _ G3.snd) rfl rfl g_L_73 om_X8_sounding rfl (fun _ _ _ q => q) rfl rfl rfl rfl ⟨rfl, rfl⟩ ⟨by decide, by decide⟩ (fun _ _ q => by obtain ⟨_, rfl⟩ := q; first | with_reducible rfl | (rw [HP_len, HP_len]; done) | rfl) (fun rv9 h9 q9 => ?_)
  obtain ⟨rfl, rfl⟩ := q9
  refine Rch.go rfl ?_
  refine Rch.i_ne rfl (fun _ => ?_) (fun q => absurd s6 q)
  refine Rch.go rfl ?_
  refine Rch.call 0 (t_X8_count c3 _ s L [] _) rfl rfl g_L_57 om_X8_count rfl (fun _ _ _ q => q) rfl rfl rfl rfl ⟨rfl, rfl⟩ ⟨by decide, by decide⟩ (fun _ _ q => by obtain ⟨_, rfl⟩ := q; first | with_reducible rfl | (rw [HP_len, HP_len]; done) | rfl) (fun rv9 h9 q9 => ?_)
  obtain ⟨rfl, rfl⟩ := q9
  rw [cou_2]
  refine Rch.go rfl ?_
  refine Rch.i_ne rfl (fun _ => ?_) (fun q => absurd s7 q)
  refine Rch.go rfl ?_
  refine Rch.call 0 (t_X8_undo c3 r3 K s L (by omega) hq3.1) rfl rfl g_L_66 om_X8_undo rfl (fun _ _ _ q => q) rfl rfl rfl rfl ⟨rfl, rfl⟩ ⟨by decide, by decide⟩ (fun _ _ q => by obtain ⟨_, rfl⟩ := q; first | with_reducible rfl | (rw [HP_len, HP_len]; done) | rfl) (fun rv9 h9 q9 => ?_)
  obtain ⟨rfl, rfl⟩ := q9
  rw [if_neg (show ¬ q3 = 0 by omega), if_neg (show ¬ q3 = 0 by omega), if_neg (show ¬ q3 = 0 by omega), t3]
  refine Rch.go rfl ?_
  refine Rch.call 0 (t_X8_undo _ r3 K s L (by omega) (by omega)) rfl rfl g_L_66 om_X8_undo rfl (fun _ _ _ q => q) rfl rfl rfl rfl ⟨rfl, rfl⟩ ⟨by decide, by decide⟩ (fun _ _ q => by obtain ⟨_, rfl⟩ := q; first | with_reducible rfl | (rw [HP_len, HP_len]; done) | rfl) (fun rv9 h9 q9 => ?_)
  obtain ⟨rfl, rfl⟩ := q9
  rw [if_neg (show ¬ q3 - 1 = 0 by omega), if_neg (show ¬ q3 - 1 = 0 by omega), if_neg (show ¬ q3 - 1 = 0 by omega), t2]
  refine Rch.go rfl ?_
  refine Rch.call 0 (t_X8_undo _ r3 K s L (by omega) (by omega)) rfl rfl g_L_66 om_X8_undo rfl (fun _ _ _ q => q) rfl rfl rfl rfl ⟨rfl, rfl⟩ ⟨by decide, by decide⟩ (fun _ _ q => by obtain ⟨_, rfl⟩ := q; first | with_reducible rfl | (rw [HP_len, HP_len]; done) | rfl) (fun rv9 h9 q9 => ?_)
  obtain ⟨rfl, rfl⟩ := q9
  rw [if_neg (show ¬ q3 - 1 - 1 = 0 by omega), if_neg (show ¬ q3 - 1 - 1 = 0 by omega), if_neg (show ¬ q3 - 1 - 1 = 0 by omega), t1]
  refine Rch.go rfl ?_
  refine Rch.z_eq rfl (fun q => absurd q (by decide)) (fun _ => ?_)
  refine Rch.go rfl ?_
  refine Rch.z_lt rfl (fun z => absurd z (nI_pos (by omega))) (fun _ => ?_)
  refine Rch.go rfl ?_
  refine Rch.call 0 (t_X8_count _ _ s L [] _) rfl rfl g_L_57 om_X8_count rfl (fun _ _ _ q => q) rfl rfl rfl rfl ⟨rfl, rfl⟩ ⟨by decide, by decide⟩ (fun _ _ q => by obtain ⟨_, rfl⟩ := q; first | with_reducible rfl | (rw [HP_len, HP_len]; done) | rfl) (fun rv9 h9 q9 => ?_)
  obtain ⟨rfl, rfl⟩ := q9
  rw [cou_7, ec 156 (by decide)]
  refine Rch.go rfl ?_
  refine Rch.i_ne rfl (fun _ => ?_) (fun q => absurd s8.symm q)
  refine Rch.go rfl ?_
  exact Rch.ri rfl rfl rfl (by decide) (by decide) (⟨rfl, _, _, _, by omega, ec, rfl⟩)
end LN
end
section
/-! ===== the law: what would set her upright is so ===== -/
theorem bez.none {c : FA} {P : Nat → Int32 → Prop} {N : Nat} {U : US} (h : bez c P N U) (hN : N < 2 ^ 31) (z : U.2.1 = 0) : U.1 = 0 ∧ U.2.2 = lst c := by
  rcases h.2.2 with ⟨a, _, b⟩ | ⟨t, u, ch, h1, h2, h3, h4, rfl⟩
  · exact ⟨a, b⟩
  · exfalso
    have z : ch = 0 := z
    have hk : (nI u).toInt = u := nI_toInt (by omega)
    rcases h4 with e | e
    · rw [← e, z, show (0 : Int32).toInt = 0 from rfl] at hk; omega
    · have hn : (-(nI u)).toInt = -u := by rw [pzNg (by omega), hk]
      rw [← e, z, show (0 : Int32).toInt = 0 from rfl] at hn; omega
theorem bez.lez {c : FA} {P : Nat → Int32 → Prop} {N : Nat} {U : US} (h : bez c P N U) (hN : N < 2 ^ 31) : (abi U.2.1).toInt ≤ N := by
  rcases h.2.2 with ⟨_, a, _⟩ | ⟨t, u, ch, h1, h2, h3, h4, rfl⟩
  · rw [a]; show (0 : Int) ≤ N; omega
  · show (abi ch).toInt ≤ N
    have hk : (nI u).toInt = u := nI_toInt (by omega)
    have hn : (-(nI u)).toInt = -u := by rw [pzNg (by omega), hk]
    rcases h4 with rfl | rfl
    · rw [abi_in _ (by omega)]; split <;> omega
    · rw [abi_in _ (by omega)]; split <;> omega
theorem bez.is {c : FA} {P : Nat → Int32 → Prop} {N t : Nat} {ch : Int32} {U : US} (h : bez c P N U) (ht : t < 8) (h0 : ¬ ch = 0) (e1 : nI t = U.1) (e2 : ch = U.2.1) : wdz c t ch = U.2.2 := by
  rcases h.2.2 with ⟨_, a, _⟩ | ⟨t', u, ch', h1, h2, h3, h4, rfl⟩
  · exact absurd (e2.trans a) h0
  · have e1 : nI t = nI t' := e1
    have e2 : ch = ch' := e2
    have e : t = t' := (nI_eq (by omega) (by omega)).mp e1
    subst e
    subst e2
    rfl
section LU
theorem t_L_isUprightSo (c : FA) (K : KS) (s : FA) (L : LS9) {B u : Nat} (h : Gdz B c) (h1 : 1 ≤ u) (hu : u ≤ 20) : Ct m_L_isUprightSo X0 [.ref 0, .int (nI u)] (HP c K s L []) (fun rv h9 => rv = some (.int 1) ∧ ∃ U : US, h9 = HP c K s L (uQ U U U)) := by
  have hR := h.1
  refine ⟨ok_L_isUprightSo, ?_⟩
  refine Rch.go rfl ?_
  refine Rch.callG 0 (t_X8_upright__0 (0, 0, 0) (0, 0, 0) c K s L 0 h1 (by omega) (by decide)) rfl rfl g_L_70 om_X8_upright rfl (fun _ _ _ q => q) rfl rfl rfl rfl (cc' := 1) (cs' := 3) rfl rfl (by decide) (by decide) rfl rfl (fun rv9 h9 q9 => ?_)
  obtain ⟨rfl, rfl⟩ := q9
  rw [if_pos rfl]
  refine Rch.go rfl ?_
  refine Rch.callG 0 (t_X8_upright__1 (upo c u) (0, 0, 0) c K s L 1 h1 (by omega) (by decide)) rfl rfl g_L_70 om_X8_upright rfl (fun _ _ _ q => q) rfl rfl rfl rfl (cc' := 2) (cs' := 6) rfl rfl (by decide) (by decide) rfl rfl (fun rv9 h9 q9 => ?_)
  obtain ⟨rfl, rfl⟩ := q9
  rw [if_neg (by decide), if_pos rfl]
  refine Rch.go rfl ?_
  refine Rch.callG 0 (t_X8_upright__2 (upo c u) (upo c u) c K s L 2 h1 (by omega) (by decide)) rfl rfl g_L_70 om_X8_upright rfl (fun _ _ _ q => q) rfl rfl rfl rfl (cc' := 3) (cs' := 9) rfl rfl (by decide) (by decide) rfl rfl (fun rv9 h9 q9 => ?_)
  obtain ⟨rfl, rfl⟩ := q9
  rw [if_neg (by decide), if_neg (by decide)]
  have hb := upo_A hR (N := u) (by omega) u (Nat.le_refl u)
  generalize upo c u = U at *
  refine Rch.go rfl ?_
  refine Rch.call 0 (t_X8_count c K s L _ _) rfl rfl g_L_57 om_X8_count rfl (fun _ _ _ q => q) rfl rfl rfl rfl ⟨rfl, rfl⟩ ⟨by decide, by decide⟩ (fun _ _ q => by obtain ⟨_, rfl⟩ := q; first | with_reducible rfl | (rw [HP_len, HP_len]; done) | rfl) (fun rv9 h9 q9 => ?_)
  obtain ⟨rfl, rfl⟩ := q9
  rw [cou_0]
  refine Rch.go rfl ?_
  refine Rch.call 1 (t_L_size _ _) rfl rfl g_L_54 om_L_size rfl (fun _ _ _ q => q) rfl rfl rfl rfl ⟨rfl, rfl⟩ ⟨by decide, by decide⟩ (fun _ _ q => by obtain ⟨_, rfl⟩ := q; first | with_reducible rfl | (rw [HP_len, HP_len]; done) | rfl) (fun rv9 h9 q9 => ?_)
  obtain ⟨rfl, rfl⟩ := q9
  refine Rch.go rfl ?_
  refine Rch.call 0 (t_X8_count c K s L _ _) rfl rfl g_L_57 om_X8_count rfl (fun _ _ _ q => q) rfl rfl rfl rfl ⟨rfl, rfl⟩ ⟨by decide, by decide⟩ (fun _ _ q => by obtain ⟨_, rfl⟩ := q; first | with_reducible rfl | (rw [HP_len, HP_len]; done) | rfl) (fun rv9 h9 q9 => ?_)
  obtain ⟨rfl, rfl⟩ := q9
  rw [cou_2]
  refine Rch.call 1 (t_L_size _ _) rfl rfl g_L_54 om_L_size rfl (fun _ _ _ q => q) rfl rfl rfl rfl ⟨rfl, rfl⟩ ⟨by decide, by decide⟩ (fun _ _ q => by obtain ⟨_, rfl⟩ := q; first | with_reducible rfl | (rw [HP_len, HP_len]; done) | rfl) (fun rv9 h9 q9 => ?_)
  obtain ⟨rfl, rfl⟩ := q9
  refine Rch.i_gt rfl (fun q => absurd (pzlt.mp q) (by have := hb.1; omega)) (fun _ => ?_)
  refine Rch.go rfl ?_
  refine Rch.call 1 (t_L_size _ _) rfl rfl g_L_54 om_L_size rfl (fun _ _ _ q => q) rfl rfl rfl rfl ⟨rfl, rfl⟩ ⟨by decide, by decide⟩ (fun _ _ q => by obtain ⟨_, rfl⟩ := q; first | with_reducible rfl | (rw [HP_len, HP_len]; done) | rfl) (fun rv9 h9 q9 => ?_)
  obtain ⟨rfl, rfl⟩ := q9
  refine Rch.go rfl ?_
  refine Rch.i_gt rfl (fun q => absurd (pzlt.mp q) (by have := hb.lez (by omega); rw [nI_toInt (by omega)]; omega)) (fun _ => ?_)
  refine Rch.go rfl ?_
  have fin : Rch m_L_isUprightSo X0 (71, [(0, .ref 0), (1, .int (nI u)), (2, .int (U.1)), (3, .int (U.2.1)), (4, .int (U.2.2)), (5, .int (wgt c))], [], HP c K s L (uQ U U U), 3, 9) (RetP m_L_isUprightSo (fun rv h9 => rv = some (.int 1) ∧ ∃ U : US, h9 = HP c K s L (uQ U U U))) := by
    refine Rch.go rfl ?_
    refine Rch.for 8 (fun n => (85, [(0, .ref 0), (1, .int (nI u)), (2, .int (U.1)), (3, .int (U.2.1)), (4, .int (U.2.2)), (5, .int (wgt c)), (6, .int (1)), (7, .int (nI n))], [.int 8, .int (nI n)], HP c K s L (uQ U U U), 3, 9)) (fun n hn => ?_) ?_ 0 (by omega)
    · refine Rch.i_ge rfl (fun z => absurd z (lo_in hn (by decide))) (fun _ => ?_)
      refine Rch.go rfl ?_
      refine Rch.for u (fun i => (94, [(0, .ref 0), (1, .int (nI u)), (2, .int (U.1)), (3, .int (U.2.1)), (4, .int (U.2.2)), (5, .int (wgt c)), (6, .int (1)), (7, .int (nI n)), (8, .int (nI (i + 1)))], [.int (nI u), .int (nI (i + 1))], HP c K s L (uQ U U U), 3, 9)) (fun i hi => ?_) ?_ 0 (by omega)
      · refine Rch.i_gt rfl (fun z => absurd ((nI_ltI (by omega) (by omega)).mp z) (by omega)) (fun _ => ?_)
        have hk : (nI (i + 1)).toInt = ((i + 1 : Nat) : Int) := nI_toInt (by omega)
        have body : ∀ kk : Int32, kk * nI (i + 1) = nI (i + 1) ∨ kk * nI (i + 1) = -(nI (i + 1)) → Rch m_L_isUprightSo X0 (106, [(0, .ref 0), (1, .int (nI u)), (2, .int (U.1)), (3, .int (U.2.1)), (4, .int (U.2.2)), (5, .int (wgt c)), (6, .int (1)), (7, .int (nI n)), (8, .int (nI (i + 1))), (9, .int kk)], [], HP c K s L (uQ U U U), 3, 9) (fun τ => τ = (103, [(0, .ref 0), (1, .int (nI u)), (2, .int (U.1)), (3, .int (U.2.1)), (4, .int (U.2.2)), (5, .int (wgt c)), (6, .int (1)), (7, .int (nI n)), (8, .int (nI (i + 1))), (9, .int (kk + 2))], [.int 2, .int (kk + 2)], HP c K s L (uQ U U U), 3, 9)) := by
          intro kk hc
          have hne := (lof_wd hR hn (show i + 1 ≤ 100 by omega) _ hc).2
          have h0 : ¬ kk * nI (i + 1) = 0 := by
            intro e
            have hn2 : (-(nI (i + 1))).toInt = -((i + 1 : Nat) : Int) := by rw [pzNg (by omega), hk]
            rcases hc with q | q
            · rw [← q, e, show (0 : Int32).toInt = 0 from rfl] at hk; omega
            · rw [← q, e, show (0 : Int32).toInt = 0 from rfl] at hn2; omega
          refine Rch.go rfl ?_
          refine Rch.call 0 (t_X8_tank c K s L _ _ _) rfl rfl g_L_45 om_X8_tank rfl (fun _ _ _ q => q) rfl rfl rfl rfl ⟨rfl, rfl⟩ ⟨by decide, by decide⟩ (fun _ _ q => by obtain ⟨_, rfl⟩ := q; first | with_reducible rfl | (rw [HP_len, HP_len]; done) | rfl) (fun rv9 h9 q9 => ?_)
          obtain ⟨rfl, rfl⟩ := q9
          rw [tnk_0 hn]
          refine Rch.go rfl ?_
          refine Rch.call 0 (t_X8_count c K s L _ _) rfl rfl g_L_57 om_X8_count rfl (fun _ _ _ q => q) rfl rfl rfl rfl ⟨rfl, rfl⟩ ⟨by decide, by decide⟩ (fun _ _ q => by obtain ⟨_, rfl⟩ := q; first | with_reducible rfl | (rw [HP_len, HP_len]; done) | rfl) (fun rv9 h9 q9 => ?_)
          obtain ⟨rfl, rfl⟩ := q9
          rw [cou_5]
          refine Rch.go rfl ?_
          refine Rch.div rfl hne ?_
          refine Rch.go rfl ?_
          refine Rch.z_eq rfl (fun q => absurd q (by decide)) (fun _ => ?_)
          have f208 : Rch m_L_isUprightSo X0 (208, [(0, .ref 0), (1, .int (nI u)), (2, .int (U.1)), (3, .int (U.2.1)), (4, .int (U.2.2)), (5, .int (wgt c)), (6, .int (1)), (7, .int (nI n)), (8, .int (nI (i + 1))), (9, .int kk), (10, .int (c n + kk * nI (i + 1))), (11, .int (wdz c n (kk * nI (i + 1))))], [], HP c K s L (uQ U U U), 3, 9) (fun τ => τ = (103, [(0, .ref 0), (1, .int (nI u)), (2, .int (U.1)), (3, .int (U.2.1)), (4, .int (U.2.2)), (5, .int (wgt c)), (6, .int (1)), (7, .int (nI n)), (8, .int (nI (i + 1))), (9, .int (kk + 2))], [.int 2, .int (kk + 2)], HP c K s L (uQ U U U), 3, 9)) := by
            refine Rch.go rfl ?_
            refine Rch.wp [0, 1, 2, 3, 4, 5, 6, 7, 8, 9] rfl rfl (Rch.rf ?_)
            rfl
          have f186 : Rch m_L_isUprightSo X0 (186, [(0, .ref 0), (1, .int (nI u)), (2, .int (U.1)), (3, .int (U.2.1)), (4, .int (U.2.2)), (5, .int (wgt c)), (6, .int (1)), (7, .int (nI n)), (8, .int (nI (i + 1))), (9, .int kk), (10, .int (c n + kk * nI (i + 1))), (11, .int (wdz c n (kk * nI (i + 1))))], [], HP c K s L (uQ U U U), 3, 9) (fun τ => τ = (103, [(0, .ref 0), (1, .int (nI u)), (2, .int (U.1)), (3, .int (U.2.1)), (4, .int (U.2.2)), (5, .int (wgt c)), (6, .int (1)), (7, .int (nI n)), (8, .int (nI (i + 1))), (9, .int (kk + 2))], [.int 2, .int (kk + 2)], HP c K s L (uQ U U U), 3, 9)) := by
            refine Rch.go rfl ?_
            refine Rch.i_ne rfl (fun z => ?_) (fun z => ?_)
            · refine Rch.go rfl ?_
              refine Rch.i_ne rfl (fun z2 => ?_) (fun z2 => ?_)
              · refine Rch.go rfl ?_
                refine Rch.i_ne rfl (fun _ => ?_) (fun q => absurd (hb.is hn h0 z z2) q)
                exact f208
              · exact f208
            · exact f208
          refine Rch.go rfl ?_
          refine Rch.z_lt rfl (fun z => ?_) (fun z => ?_)
          · exact f186
          · refine Rch.go rfl ?_
            refine Rch.i_gt rfl (fun z2 => ?_) (fun z2 => ?_)
            · exact f186
            · refine Rch.go rfl ?_
              refine Rch.call 1 (t_L_size _ _) rfl rfl g_L_54 om_L_size rfl (fun _ _ _ q => q) rfl rfl rfl rfl ⟨rfl, rfl⟩ ⟨by decide, by decide⟩ (fun _ _ q => by obtain ⟨_, rfl⟩ := q; first | with_reducible rfl | (rw [HP_len, HP_len]; done) | rfl) (fun rv9 h9 q9 => ?_)
              obtain ⟨rfl, rfl⟩ := q9
              refine Rch.go rfl ?_
              refine Rch.call 1 (t_L_size _ _) rfl rfl g_L_54 om_L_size rfl (fun _ _ _ q => q) rfl rfl rfl rfl ⟨rfl, rfl⟩ ⟨by decide, by decide⟩ (fun _ _ q => by obtain ⟨_, rfl⟩ := q; first | with_reducible rfl | (rw [HP_len, HP_len]; done) | rfl) (fun rv9 h9 q9 => ?_)
              obtain ⟨rfl, rfl⟩ := q9
              refine Rch.i_lt rfl (fun q => absurd (pzlt.mp q) ?_) (fun _ => ?_)
              · have g := hb.2.1 n (kk * nI (i + 1)) hn ⟨i + 1, by omega, by omega, hc⟩ ⟨z, Int32.not_lt.mp z2⟩
                exact Int.not_lt.mpr g
              · exact f186
        refine Rch.go rfl ?_
        refine Rch.i_ge rfl (fun z => absurd z (by decide)) (fun _ => ?_)
        refine Rch.tr (body (-1) (Or.inr (by grind))) (fun τ hτ => ?_)
        rw [hτ]
        refine Rch.i_ge rfl (fun z => absurd z (by decide)) (fun _ => ?_)
        refine Rch.tr (body (-1 + 2) (Or.inl (by rw [show (-1 + 2 : Int32) = 1 by decide]; grind))) (fun τ hτ => ?_)
        rw [hτ]
        refine Rch.i_ge rfl (fun _ => ?_) (fun z => absurd (by decide) z)
        refine Rch.go rfl ?_
        refine Rch.wp [0, 1, 2, 3, 4, 5, 6, 7, 8] rfl rfl (Rch.rf ?_)
        rw [nI_1]
        rfl
      · refine Rch.i_gt rfl (fun _ => ?_) (fun z => absurd ((nI_ltI (by omega) (by omega)).mpr (by omega)) z)
        refine Rch.go rfl ?_
        refine Rch.wp [0, 1, 2, 3, 4, 5, 6, 7] rfl rfl (Rch.rf ?_)
        rw [nI_1]
        rfl
    · refine Rch.i_ge rfl (fun _ => ?_) (fun z => absurd (lo_out (by decide)) z)
      refine Rch.go rfl ?_
      exact Rch.ri rfl rfl rfl (by decide) (by decide) (⟨rfl, U, rfl⟩)
  refine Rch.z_ne rfl (fun z => ?_) (fun z => ?_)
  · obtain ⟨q1, q2⟩ := hb.none (by omega) z
    refine Rch.go rfl ?_
    refine Rch.z_ne rfl (fun _ => ?_) (fun q => absurd q1 q)
    refine Rch.go rfl ?_
    refine Rch.call 0 (t_X8_count c K s L _ _) rfl rfl g_L_57 om_X8_count rfl (fun _ _ _ q => q) rfl rfl rfl rfl ⟨rfl, rfl⟩ ⟨by decide, by decide⟩ (fun _ _ q => by obtain ⟨_, rfl⟩ := q; first | with_reducible rfl | (rw [HP_len, HP_len]; done) | rfl) (fun rv9 h9 q9 => ?_)
    obtain ⟨rfl, rfl⟩ := q9
    rw [cou_2]
    refine Rch.i_ne rfl (fun _ => ?_) (fun q => absurd q2 q)
    exact fin
  · exact fin
end LU
end
section
/-! ===== the law: what it does ===== -/
theorem Ct.mono {M : MI} {X : AX} {a : List Value} {h0 : AH} {Φ Ψ : Option Value → AH → Prop} (h : Ct M X a h0 Φ) (k : ∀ rv h', Φ rv h' → Ψ rv h') : Ct M X a h0 Ψ :=
  ⟨h.1, h.2.mono (fun τ q => ⟨q.1, q.2.1, q.2.2.choose, q.2.2.choose_spec.1, k _ _ q.2.2.choose_spec.2⟩)⟩
theorem inz {k a b : Nat} (h1 : a ≤ k) (h2 : k ≤ b) (hb : b < 2 ^ 31) : nI a ≤ nI k ∧ nI k ≤ nI b := ⟨(nI_leI (by omega) (by omega)).mpr h1, (nI_leI (by omega) hb).mpr h2⟩
section LD
theorem t_X8_order__z (c : FA) (r : Nat → FA) (K : KR) (s : FA) (L : LS9) {n q : Nat} (hn : n < 4) (hq : q ≤ 4) {N k b : Nat} (hN : RowOk c N) (hk : k < 5) (hb : k < 2 → b < 5) (h1 : 2 ≤ k → 1 ≤ b) (h6 : b ≤ 60) : Ct m_X8_order X0 [.ref 0, .int (nI k), .int (nI b)] (HP c (r, nI n, nI q, K) s L []) (fun rv h9 => rv = some (.int (ord c (nI k) (nI b) N).1) ∧ h9 = hA c r n q K s L (ord c (nI k) (nI b) N).2) := by
  refine (t_X8_order c r K s L hn hq (nI k) (nI b) hN.1 hN.2.1).mono (fun rv h9 q9 => q9.1 ⟨in4z hk, ?_⟩)
  unfold rby
  have e0 : (nI k = 0 ∨ nI k = 1) ↔ k < 2 := by
    rw [show (nI k = 0) = (nI k = nI 0) from rfl, show (nI k = 1) = (nI k = nI 1) from rfl, nI_eq (by omega) (by decide), nI_eq (by omega) (by decide)]
    omega
  by_cases z : k < 2
  · rw [if_pos (e0.mpr z)]
    exact in4z (hb z)
  · rw [if_neg (fun q => z (e0.mp q))]
    exact inz (a := 1) (b := 60) (h1 (by omega)) h6 (by decide)
theorem t_L_does (c : FA) (r : Nat → FA) (K : KR) (s : FA) (L : LS9) {n q : Nat} (hn : n < 4) (hq : q ≤ 4) {B : Nat} (h : Gdz B c) (v : Int32) : Ct m_L_does X0 [.ref 0, .int v] (HP c (r, nI n, nI q, K) s L []) (fun rv h9 => ∃ S : Int32 × Option FA, AOz B c S ∧ rv = some (.int S.1) ∧ h9 = hA c r n q K s L S.2) := by
  obtain ⟨N, hN⟩ := h.2.2.1
  have hN12 := hN.2.1
  obtain ⟨R, hR9, hR⟩ := h.rate
  have hR2 : R < 2 ^ 31 := by omega
  refine ⟨ok_L_does, ?_⟩
  refine Rch.go rfl ?_
  by_cases hw : 0 ≤ (v &&& 15) ∧ (v &&& 15) ≤ 12
  rotate_left
  · refine Rch.sw (t := 331) rfl (if_pos (outr hw)) ?_
    refine Rch.go rfl ?_
    refine Rch.call 1 (t_L_low (n := 15) _ _ (by decide) (by decide)) rfl rfl g_L_8 om_L_low rfl (fun _ _ _ q => q) rfl rfl rfl rfl ⟨rfl, rfl⟩ ⟨by decide, by decide⟩ (fun _ _ q => by obtain ⟨_, rfl⟩ := q; first | with_reducible rfl | (rw [HP_len, HP_len]; done) | rfl) (fun rv9 h9 q9 => ?_)
    obtain ⟨⟨k1, hk1, rfl⟩, rfl⟩ := q9
    refine Rch.go rfl ?_
    rw [show (1 : Int32) + nI k1 = nI (1 + k1) from nI_add 1 k1]
    refine Rch.call 0 (t_X8_pass c r K s L hn hq _ hR hR2) rfl rfl g_L_42 om_X8_pass rfl (fun _ _ _ q => q) rfl rfl rfl rfl ⟨rfl, rfl⟩ ⟨by decide, by decide⟩ (fun _ _ q => by obtain ⟨_, rfl⟩ := q; exact hA_len _) (fun rv9 h9 q9 => ?_)
    obtain ⟨rfl, rfl⟩ := q9
    exact Rch.ri rfl rfl rfl (by decide) (by decide) (⟨_, pas_A h (inz (a := 1) (b := 200) (by omega) (by omega) (by decide)), rfl, rfl⟩)
  obtain ⟨y, hy, ey⟩ := rng (n := 12) rfl (by decide) hw
  rw [ey]
  match y, hy with
  | 0, _ =>
    refine Rch.sw (t := 72) rfl rfl ?_
    refine Rch.go rfl ?_
    refine Rch.call 1 (t_L_low (n := 3) _ _ (by decide) (by decide)) rfl rfl g_L_8 om_L_low rfl (fun _ _ _ q => q) rfl rfl rfl rfl ⟨rfl, rfl⟩ ⟨by decide, by decide⟩ (fun _ _ q => by obtain ⟨_, rfl⟩ := q; first | with_reducible rfl | (rw [HP_len, HP_len]; done) | rfl) (fun rv9 h9 q9 => ?_)
    obtain ⟨⟨k1, hk1, rfl⟩, rfl⟩ := q9
    refine Rch.go rfl ?_
    refine Rch.call 1 (t_L_low (n := 301) _ _ (by decide) (by decide)) rfl rfl g_L_8 om_L_low rfl (fun _ _ _ q => q) rfl rfl rfl rfl ⟨rfl, rfl⟩ ⟨by decide, by decide⟩ (fun _ _ q => by obtain ⟨_, rfl⟩ := q; first | with_reducible rfl | (rw [HP_len, HP_len]; done) | rfl) (fun rv9 h9 q9 => ?_)
    obtain ⟨⟨k2, hk2, rfl⟩, rfl⟩ := q9
    refine Rch.go rfl ?_
    refine Rch.call 1 (t_L_low (n := 7) _ _ (by decide) (by decide)) rfl rfl g_L_8 om_L_low rfl (fun _ _ _ q => q) rfl rfl rfl rfl ⟨rfl, rfl⟩ ⟨by decide, by decide⟩ (fun _ _ q => by obtain ⟨_, rfl⟩ := q; first | with_reducible rfl | (rw [HP_len, HP_len]; done) | rfl) (fun rv9 h9 q9 => ?_)
    obtain ⟨⟨k3, hk3, rfl⟩, rfl⟩ := q9
    refine Rch.go rfl ?_
    refine Rch.call 0 (t_X8_load c r K s L hn hq _ _ _) rfl rfl g_L_14 om_X8_load rfl (fun _ _ _ q => q) rfl rfl rfl rfl ⟨rfl, rfl⟩ ⟨by decide, by decide⟩ (fun _ _ q => by obtain ⟨_, rfl⟩ := q; exact hA_len _) (fun rv9 h9 q9 => ?_)
    obtain ⟨rfl, rfl⟩ := q9
    exact Rch.ri rfl rfl rfl (by decide) (by decide) (⟨_, lod_A h (in2z hk1) (inz (a := 0) (b := 300) (by omega) (by omega) (by decide)) ((by decide : ∀ k, k < 7 → (-3 : Int32) ≤ nI k - 3 ∧ nI k - 3 ≤ 3) k3 hk3), rfl, rfl⟩)
  | 1, _ =>
    refine Rch.sw (t := 105) rfl rfl ?_
    refine Rch.go rfl ?_
    refine Rch.call 1 (t_L_low (n := 8) _ _ (by decide) (by decide)) rfl rfl g_L_8 om_L_low rfl (fun _ _ _ q => q) rfl rfl rfl rfl ⟨rfl, rfl⟩ ⟨by decide, by decide⟩ (fun _ _ q => by obtain ⟨_, rfl⟩ := q; first | with_reducible rfl | (rw [HP_len, HP_len]; done) | rfl) (fun rv9 h9 q9 => ?_)
    obtain ⟨⟨k1, hk1, rfl⟩, rfl⟩ := q9
    refine Rch.go rfl ?_
    refine Rch.call 1 (t_L_low (n := 10) _ _ (by decide) (by decide)) rfl rfl g_L_8 om_L_low rfl (fun _ _ _ q => q) rfl rfl rfl rfl ⟨rfl, rfl⟩ ⟨by decide, by decide⟩ (fun _ _ q => by obtain ⟨_, rfl⟩ := q; first | with_reducible rfl | (rw [HP_len, HP_len]; done) | rfl) (fun rv9 h9 q9 => ?_)
    obtain ⟨⟨k2, hk2, rfl⟩, rfl⟩ := q9
    refine Rch.call 0 (t_X8_leak c r K s L hn hq _ _) rfl rfl g_L_20 om_X8_leak rfl (fun _ _ _ q => q) rfl rfl rfl rfl ⟨rfl, rfl⟩ ⟨by decide, by decide⟩ (fun _ _ q => by obtain ⟨_, rfl⟩ := q; exact hA_len _) (fun rv9 h9 q9 => ?_)
    obtain ⟨rfl, rfl⟩ := q9
    exact Rch.ri rfl rfl rfl (by decide) (by decide) (⟨_, lek_A h (in7z hk1) (inz (a := 0) (b := 9) (by omega) (by omega) (by decide)), rfl, rfl⟩)
  | 2, _ =>
    refine Rch.sw (t := 127) rfl rfl ?_
    refine Rch.go rfl ?_
    refine Rch.call 1 (t_L_low (n := 5) _ _ (by decide) (by decide)) rfl rfl g_L_8 om_L_low rfl (fun _ _ _ q => q) rfl rfl rfl rfl ⟨rfl, rfl⟩ ⟨by decide, by decide⟩ (fun _ _ q => by obtain ⟨_, rfl⟩ := q; first | with_reducible rfl | (rw [HP_len, HP_len]; done) | rfl) (fun rv9 h9 q9 => ?_)
    obtain ⟨⟨k1, hk1, rfl⟩, rfl⟩ := q9
    refine Rch.go rfl ?_
    refine Rch.call 1 (t_L_low (n := 255) _ _ (by decide) (by decide)) rfl rfl g_L_8 om_L_low rfl (fun _ _ _ q => q) rfl rfl rfl rfl ⟨rfl, rfl⟩ ⟨by decide, by decide⟩ (fun _ _ q => by obtain ⟨_, rfl⟩ := q; first | with_reducible rfl | (rw [HP_len, HP_len]; done) | rfl) (fun rv9 h9 q9 => ?_)
    obtain ⟨⟨k2, hk2, rfl⟩, rfl⟩ := q9
    refine Rch.go rfl ?_
    rw [show (1 : Int32) + nI k2 = nI (1 + k2) from nI_add 1 k2]
    refine Rch.call 0 (t_X8_setGroup c r K s L hn hq _ _) rfl rfl g_L_23 om_X8_setGroup rfl (fun _ _ _ q => q) rfl rfl rfl rfl ⟨rfl, rfl⟩ ⟨by decide, by decide⟩ (fun _ _ q => by obtain ⟨_, rfl⟩ := q; exact hA_len _) (fun rv9 h9 q9 => ?_)
    obtain ⟨rfl, rfl⟩ := q9
    exact Rch.ri rfl rfl rfl (by decide) (by decide) (⟨_, sgr_A h (in4z hk1) (inz (a := 1) (b := 255) (by omega) (by omega) (by decide)), rfl, rfl⟩)
  | 3, _ =>
    refine Rch.sw (t := 151) rfl rfl ?_
    refine Rch.go rfl ?_
    refine Rch.call 1 (t_L_low (n := 3) _ _ (by decide) (by decide)) rfl rfl g_L_8 om_L_low rfl (fun _ _ _ q => q) rfl rfl rfl rfl ⟨rfl, rfl⟩ ⟨by decide, by decide⟩ (fun _ _ q => by obtain ⟨_, rfl⟩ := q; first | with_reducible rfl | (rw [HP_len, HP_len]; done) | rfl) (fun rv9 h9 q9 => ?_)
    obtain ⟨⟨k1, hk1, rfl⟩, rfl⟩ := q9
    refine Rch.go rfl ?_
    match k1, hk1 with
    | 0, _ =>
      refine Rch.z_ne rfl (fun _ => ?_) (fun q => absurd rfl q)
      refine Rch.go rfl ?_
      refine Rch.call 1 (t_L_low (n := 9) _ _ (by decide) (by decide)) rfl rfl g_L_8 om_L_low rfl (fun _ _ _ q => q) rfl rfl rfl rfl ⟨rfl, rfl⟩ ⟨by decide, by decide⟩ (fun _ _ q => by obtain ⟨_, rfl⟩ := q; first | with_reducible rfl | (rw [HP_len, HP_len]; done) | rfl) (fun rv9 h9 q9 => ?_)
      obtain ⟨⟨k2, hk2, rfl⟩, rfl⟩ := q9
      refine Rch.go rfl ?_
      rw [show (1 : Int32) + nI k2 = nI (1 + k2) from nI_add 1 k2]
      refine Rch.call 0 (t_X8_set c r K s L hn hq _ _) rfl rfl g_L_26 om_X8_set rfl (fun _ _ _ q => q) rfl rfl rfl rfl ⟨rfl, rfl⟩ ⟨by decide, by decide⟩ (fun _ _ q => by obtain ⟨_, rfl⟩ := q; exact hA_len _) (fun rv9 h9 q9 => ?_)
      obtain ⟨rfl, rfl⟩ := q9
      exact Rch.ri rfl rfl rfl (by decide) (by decide) (⟨_, stt_A h (j := 0) (by decide) (inz (a := 1) (b := 9) (by omega) (by omega) (by decide)), rfl, rfl⟩)
    | 1, _ =>
      refine Rch.z_ne rfl (fun q => absurd q (by decide)) (fun _ => ?_)
      refine Rch.go rfl ?_
      refine Rch.i_ne rfl (fun _ => ?_) (fun q => absurd rfl q)
      refine Rch.go rfl ?_
      refine Rch.call 1 (t_L_low (n := 30) _ _ (by decide) (by decide)) rfl rfl g_L_8 om_L_low rfl (fun _ _ _ q => q) rfl rfl rfl rfl ⟨rfl, rfl⟩ ⟨by decide, by decide⟩ (fun _ _ q => by obtain ⟨_, rfl⟩ := q; first | with_reducible rfl | (rw [HP_len, HP_len]; done) | rfl) (fun rv9 h9 q9 => ?_)
      obtain ⟨⟨k2, hk2, rfl⟩, rfl⟩ := q9
      refine Rch.go rfl ?_
      rw [show (2 : Int32) + nI k2 = nI (2 + k2) from nI_add 2 k2]
      refine Rch.call 0 (t_X8_set c r K s L hn hq _ _) rfl rfl g_L_26 om_X8_set rfl (fun _ _ _ q => q) rfl rfl rfl rfl ⟨rfl, rfl⟩ ⟨by decide, by decide⟩ (fun _ _ q => by obtain ⟨_, rfl⟩ := q; exact hA_len _) (fun rv9 h9 q9 => ?_)
      obtain ⟨rfl, rfl⟩ := q9
      exact Rch.ri rfl rfl rfl (by decide) (by decide) (⟨_, stt_A h (j := 1) (by decide) (inz (a := 2) (b := 99) (by omega) (by omega) (by decide)), rfl, rfl⟩)
    | 2, _ =>
      refine Rch.z_ne rfl (fun q => absurd q (by decide)) (fun _ => ?_)
      refine Rch.go rfl ?_
      refine Rch.i_ne rfl (fun q => absurd q (by decide)) (fun _ => ?_)
      refine Rch.go rfl ?_
      refine Rch.call 1 (t_L_low (n := 90) _ _ (by decide) (by decide)) rfl rfl g_L_8 om_L_low rfl (fun _ _ _ q => q) rfl rfl rfl rfl ⟨rfl, rfl⟩ ⟨by decide, by decide⟩ (fun _ _ q => by obtain ⟨_, rfl⟩ := q; first | with_reducible rfl | (rw [HP_len, HP_len]; done) | rfl) (fun rv9 h9 q9 => ?_)
      obtain ⟨⟨k2, hk2, rfl⟩, rfl⟩ := q9
      refine Rch.go rfl ?_
      rw [show (60 : Int32) + nI k2 = nI (60 + k2) from nI_add 60 k2]
      refine Rch.call 0 (t_X8_set c r K s L hn hq _ _) rfl rfl g_L_26 om_X8_set rfl (fun _ _ _ q => q) rfl rfl rfl rfl ⟨rfl, rfl⟩ ⟨by decide, by decide⟩ (fun _ _ q => by obtain ⟨_, rfl⟩ := q; exact hA_len _) (fun rv9 h9 q9 => ?_)
      obtain ⟨rfl, rfl⟩ := q9
      exact Rch.ri rfl rfl rfl (by decide) (by decide) (⟨_, stt_A h (j := 2) (by decide) (inz (a := 50) (b := 200) (by omega) (by omega) (by decide)), rfl, rfl⟩)
    | k1 + 3, q => exact absurd q (by omega)
  | 4, _ =>
    refine Rch.sw (t := 214) rfl rfl ?_
    refine Rch.go rfl ?_
    refine Rch.call 1 (t_L_low (n := 5) _ _ (by decide) (by decide)) rfl rfl g_L_8 om_L_low rfl (fun _ _ _ q => q) rfl rfl rfl rfl ⟨rfl, rfl⟩ ⟨by decide, by decide⟩ (fun _ _ q => by obtain ⟨_, rfl⟩ := q; first | with_reducible rfl | (rw [HP_len, HP_len]; done) | rfl) (fun rv9 h9 q9 => ?_)
    obtain ⟨⟨k1, hk1, rfl⟩, rfl⟩ := q9
    refine Rch.call 0 (t_X8_order__z c r K s L hn hq (k := 0) (b := k1) hN (by decide) (fun _ => hk1) (fun q => absurd q (by decide)) (by omega)) rfl rfl g_L_29 om_X8_order rfl (fun _ _ _ q => q) rfl rfl rfl rfl ⟨rfl, rfl⟩ ⟨by decide, by decide⟩ (fun _ _ q => by obtain ⟨_, rfl⟩ := q; exact hA_len _) (fun rv9 h9 q9 => ?_)
    obtain ⟨rfl, rfl⟩ := q9
    exact Rch.ri rfl rfl rfl (by decide) (by decide) (⟨_, ord_A h hN ⟨by decide, fun _ => hk1, fun q => absurd q (by decide), by omega⟩, rfl, rfl⟩)
  | 5, _ =>
    refine Rch.sw (t := 214) rfl rfl ?_
    refine Rch.go rfl ?_
    refine Rch.call 1 (t_L_low (n := 5) _ _ (by decide) (by decide)) rfl rfl g_L_8 om_L_low rfl (fun _ _ _ q => q) rfl rfl rfl rfl ⟨rfl, rfl⟩ ⟨by decide, by decide⟩ (fun _ _ q => by obtain ⟨_, rfl⟩ := q; first | with_reducible rfl | (rw [HP_len, HP_len]; done) | rfl) (fun rv9 h9 q9 => ?_)
    obtain ⟨⟨k1, hk1, rfl⟩, rfl⟩ := q9
    refine Rch.call 0 (t_X8_order__z c r K s L hn hq (k := 0) (b := k1) hN (by decide) (fun _ => hk1) (fun q => absurd q (by decide)) (by omega)) rfl rfl g_L_29 om_X8_order rfl (fun _ _ _ q => q) rfl rfl rfl rfl ⟨rfl, rfl⟩ ⟨by decide, by decide⟩ (fun _ _ q => by obtain ⟨_, rfl⟩ := q; exact hA_len _) (fun rv9 h9 q9 => ?_)
    obtain ⟨rfl, rfl⟩ := q9
    exact Rch.ri rfl rfl rfl (by decide) (by decide) (⟨_, ord_A h hN ⟨by decide, fun _ => hk1, fun q => absurd q (by decide), by omega⟩, rfl, rfl⟩)
  | 6, _ =>
    refine Rch.sw (t := 227) rfl rfl ?_
    refine Rch.go rfl ?_
    refine Rch.call 1 (t_L_low (n := 5) _ _ (by decide) (by decide)) rfl rfl g_L_8 om_L_low rfl (fun _ _ _ q => q) rfl rfl rfl rfl ⟨rfl, rfl⟩ ⟨by decide, by decide⟩ (fun _ _ q => by obtain ⟨_, rfl⟩ := q; first | with_reducible rfl | (rw [HP_len, HP_len]; done) | rfl) (fun rv9 h9 q9 => ?_)
    obtain ⟨⟨k1, hk1, rfl⟩, rfl⟩ := q9
    refine Rch.call 0 (t_X8_order__z c r K s L hn hq (k := 1) (b := k1) hN (by decide) (fun _ => hk1) (fun q => absurd q (by decide)) (by omega)) rfl rfl g_L_29 om_X8_order rfl (fun _ _ _ q => q) rfl rfl rfl rfl ⟨rfl, rfl⟩ ⟨by decide, by decide⟩ (fun _ _ q => by obtain ⟨_, rfl⟩ := q; exact hA_len _) (fun rv9 h9 q9 => ?_)
    obtain ⟨rfl, rfl⟩ := q9
    exact Rch.ri rfl rfl rfl (by decide) (by decide) (⟨_, ord_A h hN ⟨by decide, fun _ => hk1, fun q => absurd q (by decide), by omega⟩, rfl, rfl⟩)
  | 7, _ =>
    refine Rch.sw (t := 240) rfl rfl ?_
    refine Rch.go rfl ?_
    refine Rch.call 1 (t_L_low (n := 3) _ _ (by decide) (by decide)) rfl rfl g_L_8 om_L_low rfl (fun _ _ _ q => q) rfl rfl rfl rfl ⟨rfl, rfl⟩ ⟨by decide, by decide⟩ (fun _ _ q => by obtain ⟨_, rfl⟩ := q; first | with_reducible rfl | (rw [HP_len, HP_len]; done) | rfl) (fun rv9 h9 q9 => ?_)
    obtain ⟨⟨k1, hk1, rfl⟩, rfl⟩ := q9
    refine Rch.go rfl ?_
    refine Rch.call 1 (t_L_low (n := 30) _ _ (by decide) (by decide)) rfl rfl g_L_8 om_L_low rfl (fun _ _ _ q => q) rfl rfl rfl rfl ⟨rfl, rfl⟩ ⟨by decide, by decide⟩ (fun _ _ q => by obtain ⟨_, rfl⟩ := q; first | with_reducible rfl | (rw [HP_len, HP_len]; done) | rfl) (fun rv9 h9 q9 => ?_)
    obtain ⟨⟨k2, hk2, rfl⟩, rfl⟩ := q9
    refine Rch.go rfl ?_
    rw [show (1 : Int32) + nI k2 = nI (1 + k2) from nI_add 1 k2, show (2 : Int32) + nI k1 = nI (2 + k1) from nI_add 2 k1]
    refine Rch.call 0 (t_X8_order__z c r K s L hn hq (k := 2 + k1) (b := 1 + k2) hN (by omega) (fun q => by omega) (fun q => by omega) (by omega)) rfl rfl g_L_29 om_X8_order rfl (fun _ _ _ q => q) rfl rfl rfl rfl ⟨rfl, rfl⟩ ⟨by decide, by decide⟩ (fun _ _ q => by obtain ⟨_, rfl⟩ := q; exact hA_len _) (fun rv9 h9 q9 => ?_)
    obtain ⟨rfl, rfl⟩ := q9
    exact Rch.ri rfl rfl rfl (by decide) (by decide) (⟨_, ord_A h hN ⟨by omega, fun q => by omega, fun q => by omega, by omega⟩, rfl, rfl⟩)
  | 8, _ =>
    refine Rch.sw (t := 240) rfl rfl ?_
    refine Rch.go rfl ?_
    refine Rch.call 1 (t_L_low (n := 3) _ _ (by decide) (by decide)) rfl rfl g_L_8 om_L_low rfl (fun _ _ _ q => q) rfl rfl rfl rfl ⟨rfl, rfl⟩ ⟨by decide, by decide⟩ (fun _ _ q => by obtain ⟨_, rfl⟩ := q; first | with_reducible rfl | (rw [HP_len, HP_len]; done) | rfl) (fun rv9 h9 q9 => ?_)
    obtain ⟨⟨k1, hk1, rfl⟩, rfl⟩ := q9
    refine Rch.go rfl ?_
    refine Rch.call 1 (t_L_low (n := 30) _ _ (by decide) (by decide)) rfl rfl g_L_8 om_L_low rfl (fun _ _ _ q => q) rfl rfl rfl rfl ⟨rfl, rfl⟩ ⟨by decide, by decide⟩ (fun _ _ q => by obtain ⟨_, rfl⟩ := q; first | with_reducible rfl | (rw [HP_len, HP_len]; done) | rfl) (fun rv9 h9 q9 => ?_)
    obtain ⟨⟨k2, hk2, rfl⟩, rfl⟩ := q9
    refine Rch.go rfl ?_
    rw [show (1 : Int32) + nI k2 = nI (1 + k2) from nI_add 1 k2, show (2 : Int32) + nI k1 = nI (2 + k1) from nI_add 2 k1]
    refine Rch.call 0 (t_X8_order__z c r K s L hn hq (k := 2 + k1) (b := 1 + k2) hN (by omega) (fun q => by omega) (fun q => by omega) (by omega)) rfl rfl g_L_29 om_X8_order rfl (fun _ _ _ q => q) rfl rfl rfl rfl ⟨rfl, rfl⟩ ⟨by decide, by decide⟩ (fun _ _ q => by obtain ⟨_, rfl⟩ := q; exact hA_len _) (fun rv9 h9 q9 => ?_)
    obtain ⟨rfl, rfl⟩ := q9
    exact Rch.ri rfl rfl rfl (by decide) (by decide) (⟨_, ord_A h hN ⟨by omega, fun q => by omega, fun q => by omega, by omega⟩, rfl, rfl⟩)
  | 9, _ =>
    refine Rch.sw (t := 265) rfl rfl ?_
    refine Rch.go rfl ?_
    refine Rch.z_ne rfl (fun z => ?_) (fun z => ?_)
    · refine Rch.go rfl ?_
      refine Rch.call 1 (t_L_low (n := 5) _ _ (by decide) (by decide)) rfl rfl g_L_8 om_L_low rfl (fun _ _ _ q => q) rfl rfl rfl rfl ⟨rfl, rfl⟩ ⟨by decide, by decide⟩ (fun _ _ q => by obtain ⟨_, rfl⟩ := q; first | with_reducible rfl | (rw [HP_len, HP_len]; done) | rfl) (fun rv9 h9 q9 => ?_)
      obtain ⟨⟨k1, hk1, rfl⟩, rfl⟩ := q9
      refine Rch.call 0 (t_X8_strike c r K s L hn hq _ hN.1 hN12) rfl rfl g_L_32 om_X8_strike rfl (fun _ _ _ q => q) rfl rfl rfl rfl ⟨rfl, rfl⟩ ⟨by decide, by decide⟩ (fun _ _ q => by obtain ⟨_, rfl⟩ := q; exact hA_len _) (fun rv9 h9 q9 => ?_)
      obtain ⟨rfl, rfl⟩ := q9
      refine Rch.go rfl ?_
      exact Rch.ri rfl rfl rfl (by decide) (by decide) (⟨_, stq_A h hN (in4z hk1), rfl, rfl⟩)
    · refine Rch.go rfl ?_
      refine Rch.call 1 (t_L_low (n := 3) _ _ (by decide) (by decide)) rfl rfl g_L_8 om_L_low rfl (fun _ _ _ q => q) rfl rfl rfl rfl ⟨rfl, rfl⟩ ⟨by decide, by decide⟩ (fun _ _ q => by obtain ⟨_, rfl⟩ := q; first | with_reducible rfl | (rw [HP_len, HP_len]; done) | rfl) (fun rv9 h9 q9 => ?_)
      obtain ⟨⟨k1, hk1, rfl⟩, rfl⟩ := q9
      refine Rch.go rfl ?_
      rw [show (1 : Int32) + nI k1 = nI (1 + k1) from nI_add 1 k1]
      refine Rch.call 0 (t_X8_work c r K s L hn hq _ hN hR hR2) rfl rfl g_L_36 om_X8_work rfl (fun _ _ _ q => q) rfl rfl rfl rfl ⟨rfl, rfl⟩ ⟨by decide, by decide⟩ (fun _ _ q => by obtain ⟨_, rfl⟩ := q; exact hA_len _) (fun rv9 h9 q9 => ?_)
      obtain ⟨rfl, rfl⟩ := q9
      exact Rch.ri rfl rfl rfl (by decide) (by decide) (⟨_, wrk_A h hN (inz (a := 1) (b := 12) (by omega) (by omega) (by decide)), rfl, rfl⟩)
  | 10, _ =>
    refine Rch.sw (t := 303) rfl rfl ?_
    refine Rch.go rfl ?_
    refine Rch.call 1 (t_L_low (n := 12) _ _ (by decide) (by decide)) rfl rfl g_L_8 om_L_low rfl (fun _ _ _ q => q) rfl rfl rfl rfl ⟨rfl, rfl⟩ ⟨by decide, by decide⟩ (fun _ _ q => by obtain ⟨_, rfl⟩ := q; first | with_reducible rfl | (rw [HP_len, HP_len]; done) | rfl) (fun rv9 h9 q9 => ?_)
    obtain ⟨⟨k1, hk1, rfl⟩, rfl⟩ := q9
    refine Rch.go rfl ?_
    rw [show (1 : Int32) + nI k1 = nI (1 + k1) from nI_add 1 k1]
    refine Rch.call 0 (t_X8_work c r K s L hn hq _ hN hR hR2) rfl rfl g_L_36 om_X8_work rfl (fun _ _ _ q => q) rfl rfl rfl rfl ⟨rfl, rfl⟩ ⟨by decide, by decide⟩ (fun _ _ q => by obtain ⟨_, rfl⟩ := q; exact hA_len _) (fun rv9 h9 q9 => ?_)
    obtain ⟨rfl, rfl⟩ := q9
    exact Rch.ri rfl rfl rfl (by decide) (by decide) (⟨_, wrk_A h hN (inz (a := 1) (b := 12) (by omega) (by omega) (by decide)), rfl, rfl⟩)
  | 11, _ =>
    refine Rch.sw (t := 303) rfl rfl ?_
    refine Rch.go rfl ?_
    refine Rch.call 1 (t_L_low (n := 12) _ _ (by decide) (by decide)) rfl rfl g_L_8 om_L_low rfl (fun _ _ _ q => q) rfl rfl rfl rfl ⟨rfl, rfl⟩ ⟨by decide, by decide⟩ (fun _ _ q => by obtain ⟨_, rfl⟩ := q; first | with_reducible rfl | (rw [HP_len, HP_len]; done) | rfl) (fun rv9 h9 q9 => ?_)
    obtain ⟨⟨k1, hk1, rfl⟩, rfl⟩ := q9
    refine Rch.go rfl ?_
    rw [show (1 : Int32) + nI k1 = nI (1 + k1) from nI_add 1 k1]
    refine Rch.call 0 (t_X8_work c r K s L hn hq _ hN hR hR2) rfl rfl g_L_36 om_X8_work rfl (fun _ _ _ q => q) rfl rfl rfl rfl ⟨rfl, rfl⟩ ⟨by decide, by decide⟩ (fun _ _ q => by obtain ⟨_, rfl⟩ := q; exact hA_len _) (fun rv9 h9 q9 => ?_)
    obtain ⟨rfl, rfl⟩ := q9
    exact Rch.ri rfl rfl rfl (by decide) (by decide) (⟨_, wrk_A h hN (inz (a := 1) (b := 12) (by omega) (by omega) (by decide)), rfl, rfl⟩)
  | 12, _ =>
    refine Rch.sw (t := 318) rfl rfl ?_
    refine Rch.go rfl ?_
    refine Rch.call 1 (t_L_low (n := 8) _ _ (by decide) (by decide)) rfl rfl g_L_8 om_L_low rfl (fun _ _ _ q => q) rfl rfl rfl rfl ⟨rfl, rfl⟩ ⟨by decide, by decide⟩ (fun _ _ q => by obtain ⟨_, rfl⟩ := q; first | with_reducible rfl | (rw [HP_len, HP_len]; done) | rfl) (fun rv9 h9 q9 => ?_)
    obtain ⟨⟨k1, hk1, rfl⟩, rfl⟩ := q9
    refine Rch.call 0 (t_X8_sound c r K s L hn hq _) rfl rfl g_L_39 om_X8_sound rfl (fun _ _ _ q => q) rfl rfl rfl rfl ⟨rfl, rfl⟩ ⟨by decide, by decide⟩ (fun _ _ q => by obtain ⟨_, rfl⟩ := q; exact hA_len _) (fun rv9 h9 q9 => ?_)
    obtain ⟨rfl, rfl⟩ := q9
    exact Rch.ri rfl rfl rfl (by decide) (by decide) (⟨_, sou_A h (in7z hk1), rfl, rfl⟩)
  | y + 13, hy => exact absurd hy (by omega)
end LD
end
section
/-! ===== the law's rounds ===== -/
def L00 : LS9 := (z9, 0, z9, 0, z9, 0, 0, 0, 0, 0)
abbrev hZZ (c : FA) (r : Nat → FA) (n q : Nat) (K : KR) (e : AH) : AH := HP c (r, nI n, nI q, K) z9 L00 e
abbrev lsZ (e : Nat) : AL := [(0, .ref 1007), (1, .ref 0), (2, .int (nI e))]
abbrev lsY (e : Nat) (v a b g y : Int32) : AL := [(0, .ref 1007), (1, .ref 0), (2, .int (nI e)), (3, .int v), (4, .int a), (5, .int b), (6, .int g), (7, .int y)]
/-- the law's place before its round e -/
def LIz (e : Nat) (τ : AS) : Prop := ∃ (c : FA) (r : Nat → FA) (nx q : Nat) (K : KR) (cc cs : Nat), Gdz (720 * e) c ∧ nx < 4 ∧ q ≤ 4 ∧ cc ≤ 14 + 3 * e ∧ cs ≤ 1171 + 9 * e ∧ τ = (13, lsZ e, [.int 56, .int (nI e)], hZZ c r nx q K [], cc, cs)
/-- within round e, at pc, nothing on the stack; e9: what nothing names any more -/
def LMz (e d pc : Nat) (v a b g y : Int32) (e9 : AH) (τ : AS) : Prop := ∃ (c : FA) (r : Nat → FA) (nx q : Nat) (K : KR) (cc cs : Nat), Gdz (720 * (e + 1)) c ∧ nx < 4 ∧ q ≤ 4 ∧ cc ≤ 14 + 3 * (e + d) ∧ cs ≤ 1171 + 9 * (e + d) ∧ τ = (pc, lsY e v a b g y, [], hZZ c r nx q K e9, cc, cs)
theorem hA_z {B : Nat} {c : FA} {r : Nat → FA} {n q : Nat} {K : KR} {s : FA} {L : LS9} {S : Int32 × Option FA} (h : Gdz B c) (hn : n < 4) (hq : q ≤ 4) (hS : AOz B c S) : ∃ (c1 : FA) (r1 : Nat → FA) (n1 q1 : Nat), hA c r n q K s L S.2 = HP c1 (r1, nI n1, nI q1, K) s L [] ∧ n1 < 4 ∧ q1 ≤ 4 ∧ Gdz (B + 720) c1 ∧ ∃ k l : Nat, k ≤ 720 ∧ l ≤ 2160 ∧ c1 156 = c 156 + nI k ∧ c1 161 = c 161 + nI l := by
  obtain ⟨v, o⟩ := S
  cases o with
  | none => exact ⟨c, r, n, q, rfl, hn, hq, h.mono (by omega), 0, 0, by decide, by decide, (Int32.add_zero _).symm, (Int32.add_zero _).symm⟩
  | some d =>
    obtain ⟨g1, g2⟩ := hS.2 d rfl
    exact ⟨d, vup r n (cp c (r n)), (n + 1) % 4, if q < 4 then q + 1 else 4, rfl, Nat.mod_lt _ (by decide), by split <;> omega, g1, g2⟩
section LR
theorem Lz_1 {n e : Nat} {f : FA} (hn : n ≤ 260) (he : e < 56) {τ : AS} (h : LIz e τ) : Rch m_L_law (XL n f) τ (fun τ => ∃ v a b g y : Int32, LMz e 0 132 v a b g y [] τ) := by
  obtain ⟨c, r, nx, q, K, cc, cs, hG, hnx, hq, hcc, hcs, rfl⟩ := h
  have hC : cc ≤ mC m_L_law ∧ cs ≤ mS m_L_law := ⟨Nat.le_trans hcc (by show 14 + 3 * e ≤ 600000; omega), Nat.le_trans hcs (by show 1171 + 9 * e ≤ 7302250; omega)⟩
  refine Rch.i_ge rfl (fun z => absurd z (lo_in he (by decide))) (fun _ => ?_)
  refine Rch.go rfl ?_
  refine Rch.call 1 (t_L_cell _ hn he) rfl rfl g_L_78 om_L_cell rfl (fun _ _ _ q => q) rfl rfl rfl rfl ⟨rfl, rfl⟩ hC (fun _ _ q => by obtain ⟨_, rfl⟩ := q; rfl) (fun rv9 h9 q9 => ?_)
  obtain ⟨⟨v, rfl⟩, rfl⟩ := q9
  refine Rch.go rfl ?_
  refine Rch.call 0 (t_X8_count c _ z9 L00 [] 7) rfl rfl g_L_57 om_X8_count rfl (XL_sub n f) rfl rfl rfl rfl ⟨rfl, rfl⟩ hC (fun _ _ q => by obtain ⟨_, rfl⟩ := q; rfl) (fun rv9 h9 q9 => ?_)
  obtain ⟨rfl, rfl⟩ := q9
  rw [cou_7]
  refine Rch.go rfl ?_
  refine Rch.call 0 (t_X8_count c _ z9 L00 [] 15) rfl rfl g_L_57 om_X8_count rfl (XL_sub n f) rfl rfl rfl rfl ⟨rfl, rfl⟩ hC (fun _ _ q => by obtain ⟨_, rfl⟩ := q; rfl) (fun rv9 h9 q9 => ?_)
  obtain ⟨rfl, rfl⟩ := q9
  rw [cou_15]
  refine Rch.go rfl ?_
  refine Rch.call 1 (t_L_does c r K z9 L00 hnx hq hG v) rfl rfl g_L_82 om_L_does rfl (XL_sub n f) rfl rfl rfl rfl ⟨rfl, rfl⟩ hC (fun _ _ q => by obtain ⟨_, _, _, rfl⟩ := q; exact hA_len _) (fun rv9 h9 q9 => ?_)
  obtain ⟨S, hS, rfl, rfl⟩ := q9
  obtain ⟨c1, r1, n1, q1, eA, hn1, hq1, hG1, k, l, hk, hl, e156, e161⟩ := hA_z (r := r) (n := nx) (q := q) (K := K) (s := z9) (L := L00) hG hnx hq hS
  rw [eA]
  have e720 : 720 * e + 720 = 720 * (e + 1) := by omega
  rw [e720] at hG1
  obtain ⟨N1, hN1⟩ := hG1.2.2.1
  obtain ⟨M, hM, eM⟩ := hG.2.2.2.1
  obtain ⟨T, hT, eT⟩ := hG.2.2.2.2
  have a1 : ¬ c1 156 < c 156 := by
    rw [e156, eM, nI_add]
    intro q
    have := (nI_ltI (by omega) (by omega)).mp q
    omega
  have a2 : ¬ c1 161 < c 161 := by
    rw [e161, eT, nI_add]
    intro q
    have := (nI_ltI (by omega) (by omega)).mp q
    omega
  refine Rch.go rfl ?_
  have fin : Rch m_L_law (XL n f) (82, [(0, .ref 1007), (1, .ref 0), (2, .int (nI e)), (3, .int v), (4, .int (c 156)), (5, .int (c 161)), (6, .int S.1)], [.int 0], HP c1 (r1, nI n1, nI q1, K) z9 L00 [], cc, cs) (fun τ => ∃ v a b g y : Int32, LMz e 0 132 v a b g y [] τ) := by
    refine Rch.go rfl ?_
    refine Rch.z_ne rfl (fun _ => ?_) (fun q => absurd rfl q)
    refine Rch.go rfl ?_
    refine Rch.call 0 (t_X8_count c1 _ z9 L00 [] 7) rfl rfl g_L_57 om_X8_count rfl (XL_sub n f) rfl rfl rfl rfl ⟨rfl, rfl⟩ hC (fun _ _ q => by obtain ⟨_, rfl⟩ := q; rfl) (fun rv9 h9 q9 => ?_)
    obtain ⟨rfl, rfl⟩ := q9
    rw [cou_7]
    refine Rch.go rfl ?_
    refine Rch.i_lt rfl (fun q => absurd q a1) (fun _ => ?_)
    refine Rch.go rfl ?_
    refine Rch.call 0 (t_X8_count c1 _ z9 L00 [] 15) rfl rfl g_L_57 om_X8_count rfl (XL_sub n f) rfl rfl rfl rfl ⟨rfl, rfl⟩ hC (fun _ _ q => by obtain ⟨_, rfl⟩ := q; rfl) (fun rv9 h9 q9 => ?_)
    obtain ⟨rfl, rfl⟩ := q9
    rw [cou_15]
    refine Rch.go rfl ?_
    refine Rch.i_lt rfl (fun q => absurd q a2) (fun _ => ?_)
    refine Rch.go rfl ?_
    refine Rch.call 1 (t_L_isBargeSo c1 (r1, nI n1, nI q1, K) z9 L00 hG1) rfl rfl g_L_86 om_L_isBargeSo rfl (XL_sub n f) rfl rfl rfl rfl ⟨rfl, rfl⟩ hC (fun _ _ q => by obtain ⟨_, rfl⟩ := q; rfl) (fun rv9 h9 q9 => ?_)
    obtain ⟨rfl, rfl⟩ := q9
    refine Rch.z_eq rfl (fun q => absurd q (by decide)) (fun _ => ?_)
    refine Rch.go rfl ?_
    refine Rch.i_ne rfl (fun z => ?_) (fun z => ?_)
    · refine Rch.go rfl ?_
      refine Rch.call 1 (t_L_isWorkSo c1 r1 K z9 L00 hn1 hq1 hG1) rfl rfl g_L_90 om_L_isWorkSo rfl (XL_sub n f) rfl rfl rfl rfl ⟨rfl, rfl⟩ hC (fun _ _ q => by obtain ⟨_, _, _, _, _, _, rfl⟩ := q; rfl) (fun rv9 h9 q9 => ?_)
      obtain ⟨rfl, c2, r2, q2, hq2, h2, rfl⟩ := q9
      refine Rch.z_eq rfl (fun q => absurd q (by decide)) (fun _ => ?_)
      exact Rch.rf ⟨v, c 156, c 161, S.1, 0, c2, r2, n1, q2, K, cc, cs, hG1.cg h2, hn1, hq2, by omega, by omega, rfl⟩
    · exact Rch.rf ⟨v, c 156, c 161, S.1, 0, c1, r1, n1, q1, K, cc, cs, hG1, hn1, hq1, by omega, by omega, rfl⟩
  refine Rch.i_ge rfl (fun z => ?_) (fun z => ?_)
  · exact Rch.st 1 rfl fin
  · refine Rch.go rfl ?_
    refine Rch.i_eq rfl (fun z1 => ?_) (fun z1 => ?_)
    · exact Rch.st 1 rfl fin
    · refine Rch.go rfl ?_
      refine Rch.i_eq rfl (fun z2 => ?_) (fun z2 => ?_)
      · exact Rch.st 1 rfl fin
      · refine Rch.go rfl ?_
        refine Rch.i_eq rfl (fun z3 => ?_) (fun z3 => ?_)
        · exact Rch.st 1 rfl fin
        · exfalso
          rcases hS.1 with y | y | y | y
          · exact z (Int32.le_iff_toInt_le.mpr y)
          · exact z2 y
          · exact z3 y
          · exact z1 y
theorem Lz_up {n e : Nat} {f : FA} (he : e < 56) {v a b g y : Int32} {c : FA} {r : Nat → FA} {nx q : Nat} {K : KR} {cc cs : Nat} (hG : Gdz (720 * (e + 1)) c) (hnx : nx < 4) (hq : q ≤ 4) (hcc : cc ≤ 14 + 3 * e) (hcs : cs ≤ 1171 + 9 * e) : Rch m_L_law (XL n f) (132, lsY e v a b g y, [], hZZ c r nx q K [], cc, cs) (fun τ => ∃ e9 : AH, (e9 = [] ∨ ∃ U : US, e9 = uQ U U U) ∧ LMz e 1 158 v a b g y e9 τ) := by
  have hC : cc ≤ mC m_L_law ∧ cs ≤ mS m_L_law := ⟨Nat.le_trans hcc (by show 14 + 3 * e ≤ 600000; omega), Nat.le_trans hcs (by show 1171 + 9 * e ≤ 7302250; omega)⟩
  refine Rch.go rfl ?_
  refine Rch.i_ne rfl (fun z => ?_) (fun z => ?_)
  · refine Rch.go rfl ?_
    refine Rch.call 1 (t_L_low _ (n := 20) _ (by decide) (by decide)) rfl rfl g_L_8 om_L_low rfl (XL_sub n f) rfl rfl rfl rfl ⟨rfl, rfl⟩ hC (fun _ _ q => by obtain ⟨_, rfl⟩ := q; rfl) (fun rv9 h9 q9 => ?_)
    obtain ⟨⟨k1, hk1, rfl⟩, rfl⟩ := q9
    refine Rch.go rfl ?_
    rw [show (1 : Int32) + nI k1 = nI (1 + k1) from nI_add 1 k1]
    refine Rch.callG 1 (t_L_isUprightSo c (r, nI nx, nI q, K) z9 L00 hG (by omega) (by omega)) rfl rfl g_L_93 om_L_isUprightSo rfl (XL_sub n f) rfl rfl rfl rfl (cc' := cc + 3) (cs' := cs + 9) rfl rfl (by show _ ≤ 600000; omega) (by show _ ≤ 7302250; omega) rfl rfl (fun rv9 h9 q9 => ?_)
    obtain ⟨rfl, U, rfl⟩ := q9
    refine Rch.z_eq rfl (fun q => absurd q (by decide)) (fun _ => ?_)
    exact Rch.rf ⟨uQ U U U, Or.inr ⟨U, rfl⟩, c, r, nx, q, K, cc + 3, cs + 9, hG, hnx, hq, by omega, by omega, rfl⟩
  · exact Rch.rf ⟨[], Or.inl rfl, c, r, nx, q, K, cc, cs, hG, hnx, hq, by omega, by omega, rfl⟩
theorem Lz_2 {n e : Nat} {f : FA} (he : e < 56) {v a b g y : Int32} {τ : AS} (h : LMz e 0 132 v a b g y [] τ) : Rch m_L_law (XL n f) τ (fun τ => ∃ e9 : AH, (e9 = [] ∨ ∃ U : US, e9 = uQ U U U) ∧ LMz e 1 158 v a b g y e9 τ) := by
  obtain ⟨c, r, nx, q, K, cc, cs, hG, hnx, hq, hcc, hcs, rfl⟩ := h
  exact Lz_up he hG hnx hq hcc hcs
theorem Lz_3 {n e : Nat} {f : FA} (he : e < 56) {v a b g y : Int32} {τ : AS} (h : LMz e 1 158 v a b g y [] τ) : Rch m_L_law (XL n f) τ (LIz (e + 1)) := by
  obtain ⟨c, r, nx, q, K, cc, cs, hG, hnx, hq, hcc, hcs, rfl⟩ := h
  have hC : cc ≤ mC m_L_law ∧ cs ≤ mS m_L_law := ⟨Nat.le_trans hcc (by show 14 + 3 * (e + 1) ≤ 600000; omega), Nat.le_trans hcs (by show 1171 + 9 * (e + 1) ≤ 7302250; omega)⟩
  have fin : ∀ (c : FA) (r : Nat → FA) (q : Nat), Gdz (720 * (e + 1)) c → q ≤ 4 → Rch m_L_law (XL n f) (193, lsY e v a b g y, [], hZZ c r nx q K [], cc, cs) (LIz (e + 1)) := by
    intro c r q hG hq
    refine Rch.go rfl ?_
    refine Rch.wp [0, 1, 2] rfl rfl (Rch.rf ⟨c, r, nx, q, K, cc, cs, hG, hnx, hq, hcc, hcs, ?_⟩)
    rw [nI_1]
    rfl
  refine Rch.go rfl ?_
  refine Rch.i_ne rfl (fun z => ?_) (fun z => ?_)
  · refine Rch.go rfl ?_
    refine Rch.call 1 (t_L_low _ (n := 8) _ (by decide) (by decide)) rfl rfl g_L_8 om_L_low rfl (XL_sub n f) rfl rfl rfl rfl ⟨rfl, rfl⟩ hC (fun _ _ q => by obtain ⟨_, rfl⟩ := q; rfl) (fun rv9 h9 q9 => ?_)
    obtain ⟨⟨k1, hk1, rfl⟩, rfl⟩ := q9
    refine Rch.go rfl ?_
    refine Rch.call 1 (t_L_low _ (n := 25) _ (by decide) (by decide)) rfl rfl g_L_8 om_L_low rfl (XL_sub n f) rfl rfl rfl rfl ⟨rfl, rfl⟩ hC (fun _ _ q => by obtain ⟨_, rfl⟩ := q; rfl) (fun rv9 h9 q9 => ?_)
    obtain ⟨⟨k2, hk2, rfl⟩, rfl⟩ := q9
    refine Rch.go rfl ?_
    rw [show (1 : Int32) + nI k2 = nI (1 + k2) from nI_add 1 k2]
    refine Rch.call 1 (t_L_isSoundSo c r K z9 L00 hnx hq hG hk1 (by omega) (by omega)) rfl rfl g_L_97 om_L_isSoundSo rfl (XL_sub n f) rfl rfl rfl rfl ⟨rfl, rfl⟩ hC (fun _ _ q => by obtain ⟨_, _, _, _, _, _, rfl⟩ := q; rfl) (fun rv9 h9 q9 => ?_)
    obtain ⟨rfl, c2, r2, q2, hq2, h2, rfl⟩ := q9
    refine Rch.z_ne rfl (fun q => absurd q (by decide)) (fun _ => ?_)
    exact fin c2 r2 q2 (hG.cg h2) hq2
  · exact fin c r q hG hq
end LR
end
section
/-! ===== the law's loop, and its start ===== -/
section LZ
theorem Lz_loop {n : Nat} {f : FA} (hn : n ≤ 260) : ∀ (d e : Nat), e + d = 56 → ∀ τ, LIz e τ → Rc0 m_L_law (XL n f) τ (RetP m_L_law (fun rv _ => rv = some (.int 1))) := by
  intro d
  induction d with
  | zero =>
    intro e he τ hτ
    obtain rfl : e = 56 := by omega
    obtain ⟨c, r, nx, q, K, cc, cs, hG, hnx, hq, hcc, hcs, rfl⟩ := hτ
    refine Rch.z ?_
    refine Rch.i_ge rfl (fun _ => ?_) (fun z => absurd (lo_out (by decide)) z)
    refine Rch.st 1 rfl ?_
    exact Rch.ri rfl rfl (by decide +kernel) (by show cc ≤ 600000; omega) (by show cs ≤ 7302250; omega) rfl
  | succ d ih =>
    intro e he τ hτ
    refine (Lz_1 hn (by omega) hτ).z.tr ?_
    rintro τ1 ⟨v, a, b, g, y, h1⟩
    refine (Lz_2 (by omega) h1).z.tr ?_
    rintro τ2 ⟨e9, he9, c, r, nx, q, K, cc, cs, hG, hnx, hq, hcc, hcs, rfl⟩
    have g := (Lz_3 (n := n) (f := f) (e := e) (τ := (158, lsY e v a b g y, [], hZZ c r nx q K [], cc, cs)) (by omega) ⟨c, r, nx, q, K, cc, cs, hG, hnx, hq, hcc, hcs, rfl⟩).z.tr (fun τ3 h3 => ih (e + 1) (by omega) τ3 h3)
    exact Rc0.drop (h := hZZ c r nx q K []) (e9 := e9) rfl rfl rfl g
theorem Gdz_0 : Gdz 0 (iS 3) := by
  refine ⟨?_, by unfold Wbz; decide +kernel, ⟨0, by decide, by decide, fun p hp => absurd hp (by omega)⟩, ⟨0, by decide, by decide⟩, 0, by decide, by decide⟩
  unfold Rgz
  decide +kernel
theorem Lz_start {n : Nat} {f : FA} : Rch m_L_law (XL n f) (0, [(0, .ref 1007)], [], [], 0, 0) (LIz 0) := by
  refine Rch.new (N := 5) (o := 0) (cc' := 1) (cs' := 5) (C := RX8) (T := TX8) (fs := [.null, .null, .null, .int 0, .null]) rfl rfl rfl rfl rfl rfl rfl rfl rfl rfl (by decide) (by decide) rfl ?_
  refine Rch.go rfl ?_
  refine Rch.callG 3 t_X8_init rfl rfl g_L_77 om_X8_init rfl (XL_sub n f) rfl rfl rfl rfl (cc' := 14) (cs' := 1171) rfl rfl (by decide) (by decide) rfl rfl (fun rv9 h9 q9 => ?_)
  obtain ⟨rfl, rfl⟩ := q9
  refine Rch.go rfl (Rch.rf ⟨iS 3, fun _ => z9, 0, 0, (z9, 0, z9, 0, z9, z9, 0, 0), 14, 1171, Gdz_0, by decide, by decide, by decide, by decide, ?_⟩)
  rfl
theorem Lz_all {n : Nat} {f : FA} (hn : n ≤ 260) : Rc0 m_L_law (XL n f) (0, [(0, .ref 1007)], [], [], 0, 0) (RetP m_L_law (fun rv _ => rv = some (.int 1))) :=
  (Lz_start (n := n) (f := f)).z.tr (fun τ hτ => Lz_loop hn 56 0 (by omega) τ hτ)
end LZ
end
section
/-! ===== what the claim gives of the start: the static arrays, the classes, the script ===== -/
section LE
variable {args : Array Value} {s : State} {A : Nat → Prop}
theorem st_one {n : String} (L : List Int32) (hN : L.length < 2 ^ 31) (hl : (Cond.laysStatic "BargeBallast" n "[I").before args s = true) (hini : (Cond.initialized "BargeBallast").before args s = true) (ga : (Cond.arrayOf (.static "BargeBallast" n "[I") .int).before args s = true) (gl : (Cond.eq (.length (.static "BargeBallast" n "[I")) (.int (Int32.ofNat L.length))).before args s = true) (ge : ∀ j, j < L.length → (Cond.eq (.elem (.static "BargeBallast" n "[I") (.int (Int32.ofNat j))) (.int (L.getD j 0))).before args s = true) (hA : ∀ a : Nat, a < s.heap.size → ¬ A a) :
    ∃ t : Nat, va_Z "BargeBallast" n "[I" (.ref t) A s s.heap ∧ va_T .int t L.length (fun j => .int (L.getD j 0)) A s s.heap := by
  obtain ⟨t, ht, hT⟩ := va_Tof (f := fun j => .int (L.getD j 0)) (A := A) hN ga (va_eqt gl) (fun j hj => va_eqt (ge j hj)) hA
  exact ⟨t, va_Zof hl hini ht hA, hT⟩
theorem st_all (hts : ∀ w ∈ lw_tbl, w.before args s = true) (hgv : (Jvm.Cond.and given_1 narrow_1).before args s = true) (hA : ∀ a : Nat, a < s.heap.size → ¬ A a) : ∀ k : Nat, ∃ t : Nat, k < 7 → va_Z "BargeBallast" (stN k) "[I" (.ref t) A s s.heap ∧ ∀ n f, X0 k = some (n, f) → va_T .int t n (fun j => .int (f j)) A s s.heap := by
  have g := flat_of_before _ hgv
  have hini := hts (.initialized "BargeBallast") (by decide +kernel)
  intro k
  match k with
  | 0 =>
    obtain ⟨t, h1, h2⟩ := st_one (A := A) (n := "SECTION_ARM") [(-30 : Int32), -10, 10, 30] (by decide) (hts _ (by decide +kernel)) hini (g _ (by decide +kernel)) (g _ (by decide +kernel)) (fun j hj => g _ ((by decide +kernel : ∀ j, j < 4 → (Cond.eq (.elem (.static "BargeBallast" "SECTION_ARM" "[I") (.int (Int32.ofNat j))) (.int ([(-30 : Int32), -10, 10, 30].getD j 0))) ∈ flatC (Jvm.Cond.and given_1 narrow_1)) j hj)) hA
    exact ⟨t, fun _ => ⟨h1, fun n f h => by cases h; exact h2⟩⟩
  | 1 =>
    obtain ⟨t, h1, h2⟩ := st_one (A := A) (n := "SIDE_ARM") [(-4 : Int32), 4] (by decide) (hts _ (by decide +kernel)) hini (g _ (by decide +kernel)) (g _ (by decide +kernel)) (fun j hj => g _ ((by decide +kernel : ∀ j, j < 2 → (Cond.eq (.elem (.static "BargeBallast" "SIDE_ARM" "[I") (.int (Int32.ofNat j))) (.int ([(-4 : Int32), 4].getD j 0))) ∈ flatC (Jvm.Cond.and given_1 narrow_1)) j hj)) hA
    exact ⟨t, fun _ => ⟨h1, fun n f h => by cases h; exact h2⟩⟩
  | 2 =>
    obtain ⟨t, h1, h2⟩ := st_one (A := A) (n := "HOLD_ARM") [(-20 : Int32), 0, 20] (by decide) (hts _ (by decide +kernel)) hini (g _ (by decide +kernel)) (g _ (by decide +kernel)) (fun j hj => g _ ((by decide +kernel : ∀ j, j < 3 → (Cond.eq (.elem (.static "BargeBallast" "HOLD_ARM" "[I") (.int (Int32.ofNat j))) (.int ([(-20 : Int32), 0, 20].getD j 0))) ∈ flatC (Jvm.Cond.and given_1 narrow_1)) j hj)) hA
    exact ⟨t, fun _ => ⟨h1, fun n f h => by cases h; exact h2⟩⟩
  | 3 =>
    obtain ⟨t, h1, h2⟩ := st_one (A := A) (n := "FIRST_TANKS") [(3 : Int32), 12, 48, 192, 255] (by decide) (hts _ (by decide +kernel)) hini (g _ (by decide +kernel)) (g _ (by decide +kernel)) (fun j hj => g _ ((by decide +kernel : ∀ j, j < 5 → (Cond.eq (.elem (.static "BargeBallast" "FIRST_TANKS" "[I") (.int (Int32.ofNat j))) (.int ([(3 : Int32), 12, 48, 192, 255].getD j 0))) ∈ flatC (Jvm.Cond.and given_1 narrow_1)) j hj)) hA
    exact ⟨t, fun _ => ⟨h1, fun n f h => by cases h; exact h2⟩⟩
  | 4 =>
    obtain ⟨t, h1, h2⟩ := st_one (A := A) (n := "LEAST_SETTING") [(1 : Int32), 2, 50] (by decide) (hts _ (by decide +kernel)) hini (g _ (by decide +kernel)) (g _ (by decide +kernel)) (fun j hj => g _ ((by decide +kernel : ∀ j, j < 3 → (Cond.eq (.elem (.static "BargeBallast" "LEAST_SETTING" "[I") (.int (Int32.ofNat j))) (.int ([(1 : Int32), 2, 50].getD j 0))) ∈ flatC (Jvm.Cond.and given_1 narrow_1)) j hj)) hA
    exact ⟨t, fun _ => ⟨h1, fun n f h => by cases h; exact h2⟩⟩
  | 5 =>
    obtain ⟨t, h1, h2⟩ := st_one (A := A) (n := "FIRST_SETTING") [(4 : Int32), 12, 120] (by decide) (hts _ (by decide +kernel)) hini (g _ (by decide +kernel)) (g _ (by decide +kernel)) (fun j hj => g _ ((by decide +kernel : ∀ j, j < 3 → (Cond.eq (.elem (.static "BargeBallast" "FIRST_SETTING" "[I") (.int (Int32.ofNat j))) (.int ([(4 : Int32), 12, 120].getD j 0))) ∈ flatC (Jvm.Cond.and given_1 narrow_1)) j hj)) hA
    exact ⟨t, fun _ => ⟨h1, fun n f h => by cases h; exact h2⟩⟩
  | 6 =>
    obtain ⟨t, h1, h2⟩ := st_one (A := A) (n := "MOST_SETTING") [(9 : Int32), 99, 200] (by decide) (hts _ (by decide +kernel)) hini (g _ (by decide +kernel)) (g _ (by decide +kernel)) (fun j hj => g _ ((by decide +kernel : ∀ j, j < 3 → (Cond.eq (.elem (.static "BargeBallast" "MOST_SETTING" "[I") (.int (Int32.ofNat j))) (.int ([(9 : Int32), 99, 200].getD j 0))) ∈ flatC (Jvm.Cond.and given_1 narrow_1)) j hj)) hA
    exact ⟨t, fun _ => ⟨h1, fun n f h => by cases h; exact h2⟩⟩
  | k + 7 => exact ⟨0, fun h => absurd h (by omega)⟩
theorem kn_all (hts : ∀ w ∈ lw_tbl, w.before args s = true) : ∃ D : va_G, va_K D vwCl [] s := by
  have hin : ∀ ci C T N, vwCl[ci]? = some (C, T, N) → ∀ w ∈ u_ws C T N, w ∈ lw_tbl := fun ci C T N h w hw => (List.mem_filter.mp ((cl_in ci C T N h).1 w hw)).1
  obtain ⟨c0, i0, k0⟩ := u_known (C := RX0) (T := TX0) (N := 3) (n := 3) hts (hin 0 _ _ _ rfl) (hts (.instantiable RX0 3) (by decide +kernel))
  obtain ⟨c1, i1, k1⟩ := u_known (C := RX3) (T := TX3) (N := 6) (n := 6) hts (hin 1 _ _ _ rfl) (hts (.instantiable RX3 6) (by decide +kernel))
  obtain ⟨c2, i2, k2⟩ := u_known (C := RX6) (T := TX6) (N := 1) (n := 1) hts (hin 2 _ _ _ rfl) (hts (.instantiable RX6 1) (by decide +kernel))
  obtain ⟨c3, i3, k3⟩ := u_known (C := RX7) (T := TX7) (N := 3) (n := 3) hts (hin 3 _ _ _ rfl) (hts (.instantiable RX7 3) (by decide +kernel))
  obtain ⟨c4, i4, k4⟩ := u_known (C := RX8) (T := TX8) (N := 5) (n := 5) hts (hin 4 _ _ _ rfl) (hts (.instantiable RX8 5) (by decide +kernel))
  refine ⟨(fun k => match k with
    | 0 => c0
    | 1 => c1
    | 2 => c2
    | 3 => c3
    | _ => c4, fun k => match k with
    | 0 => i0
    | 1 => i1
    | 2 => i2
    | 3 => i3
    | _ => i4), ?_, fun k q h => by simp at h⟩
  intro k q hq
  match k, hq with
  | 0, hq => cases hq; exact k0
  | 1, hq => cases hq; exact k1
  | 2, hq => cases hq; exact k2
  | 3, hq => cases hq; exact k3
  | 4, hq => cases hq; exact k4
  | k + 5, hq => simp [vwCl] at hq
theorem nw_all (hts : ∀ w ∈ lw_tbl, w.before args s = true) : ∀ w ∈ nw, va_Nw w s := by
  have key : ∀ w ∈ nw, w ∈ lw_tbl ∧ w.onTables = true := by decide +kernel
  exact fun w hw => va_Nw.of (key w hw).2 (hts w (key w hw).1)
theorem ao_all (hts : ∀ w ∈ lw_tbl, w.before args s = true) : (Cond.arrayOver (.array .int)).before #[] s = true := by
  have h := hts (.arrayOver (.array .int)) (by decide +kernel)
  unfold Cond.before Cond.holds at h ⊢
  simp only [Cond.value] at h ⊢
  exact h
theorem gw_all (hts : ∀ w ∈ lw_tbl, w.before args s = true) : ∀ w ∈ gw, w.before args s = true := fun w hw => hts w (List.mem_filter.mp hw).1
end LE
end
section
/-! THE CLAIM OUT OF ONE WALK OF THE LAW'S BODY. Your part is whole_start (and what it stands on); all else here is the same for every law, but numbers. -/
def R_law : String := "BargeBallastLaw"
def lw_P (b : Addr) (xs : List Int32) (args : Array Value) (s : State) : Prop := args = #[.ref b] ∧ s.IntsAt b xs ∧ xs.length ≤ 260 ∧ (Jvm.Cond.and given_1 narrow_1).before args s = true
def lw_Q (_ : Array Value) (s : State) (o : Outcome) (t : State) : Prop := o = .returned (some (.int 1)) ∧ Framed s o t [] 600000 7302250
def lw_Z (below : List Frame) (a : Array Value) (s : State) : State → Prop := fun t => ∃ o, t.status = .running ∧ Ended t below o ∧ lw_Q a s o t
/-- the law's own end, with 1 on the stack, nothing written that was there before, its room as the claim has it -/
theorem lw_ret {p : Program} {l : Launch} {e : Env} {s : State} {m : MethodId} {below : List Frame} {meth : Method} {c : Code} {b : Nat} (hx : p.tables.exec = Jvm.exec) (hb : c.code = code) (hr : meth.sig.returnType = ret) (hlocks : meth.locks = false) {pc : Nat} {H : Heap} {ls : Array Slot} (hdg : decode code pc = .ok (.ireturn, 1)) : W p l e room_1 s m #[Value.ref b] below meth c H [] 600000 7302250 (lw_Z below #[Value.ref b] s) (F0 m pc ls [.int 1]) := by
  intro T hT X
  obtain ⟨fs, hret, hrun, hended, hW, hframe⟩ := X.leave (v := some (.int 1)) (hlocks := hlocks) (fun h => by rw [hr] at h; cases h)
  have hmeth' : T.vm.method? m = some meth := X.method'
  refine ⟨T.setFrames fs, ?_, .returned (some (.int 1)), hrun, hended, rfl, ⟨_, rfl⟩, hW, hframe⟩
  jvm_step X.here [X.here.top, hx, hb, hdg, hmeth', hr, ret, narrow_b1]
  (try refine ⟨rfl, ?_⟩); (try refine ⟨rfl, ?_⟩)
  first | (intro acts; rw [hret _ acts rfl rfl rfl]) | rw [hret _ _ rfl rfl rfl]
  exact Steps.refl _
/-- what holds at the law's entry: the machine, the code, the tables' words (any of lw_tbl by 'hts w (by decide +kernel)'), the script of L ints xs at the cell b, what the Statement gives of the start (any of its parts by flat_of_before) -/
def lw_At (p : Program) (s : State) (m : MethodId) (meth : Method) (c : Code) (b L : Nat) (xs : Nat → Int32) : Prop :=
  p.tables.exec = Jvm.exec ∧ c.code = code ∧ meth.sig.returnType = ret ∧ c.maxLocals = 8 ∧ s.vm.findClass R_law = some m.cls ∧ (∀ w ∈ lw_tbl, w.before #[Value.ref b] s = true) ∧ va_X b L xs s s.heap ∧ b < s.heap.size ∧ meth.locks = false ∧ (Jvm.Cond.and given_1 narrow_1).before #[Value.ref b] s = true
-- ===== YOUR PART BEGINS =====
/-- YOUR PART: from the entry, for every script of at most 260 ints, the law comes to its end with true ('hflags': the launch's flags, for a law that throws: no stack traces) -/
theorem whole_start {p : Program} {e : Env} {s : State} {m : MethodId} {below : List Frame} {meth : Method} {c : Code} (l : Launch) (hflags : l.flags = flags0) {b L : Nat} {xs : Nat → Int32} (hL : L ≤ 260) (C0 : lw_At p s m meth c b L xs) : W p l e room_1 s m #[Value.ref b] below meth c s.heap [] 0 0 (lw_Z below #[Value.ref b] s) (entryFrame m ([Value.ref b] : List Value).toArray 8) := by
  obtain ⟨hx, hb, hr, hml, hown, hts, hX, hbl, hlocks, hgv⟩ := C0
  have hA : ∀ q : Nat, s.heap.size ≤ q → (fun q : Nat => s.heap.size ≤ q) q := fun _ h => h
  have hnA : ∀ a : Nat, a < s.heap.size → ¬ (fun q : Nat => s.heap.size ≤ q) a := fun a h => Nat.not_le.mpr h
  obtain ⟨D, hK⟩ := kn_all hts
  obtain ⟨ad, had⟩ := Classical.axiomOfChoice (st_all (A := fun q : Nat => s.heap.size ≤ q) hts hgv hnA)
  obtain ⟨scr, hc, hof, hkn, hsz, hval⟩ := hX
  have hT7 : va_T .int b L (fun j => .int (xs j)) (fun q : Nat => s.heap.size ≤ q) s s.heap := ⟨scr, hc, hof, hkn, by omega, by rw [hsz], hval, hnA b hbl⟩
  have cx : CxOk m_L_law (XL L xs) p room_1 s m #[Value.ref b] meth c D (fun k => if k = 7 then b else ad k) (fun q : Nat => s.heap.size ≤ q) := by
    refine ⟨hx, hb, hml, gw_all hts, nw_all hts, ao_all hts, hown, fun h => absurd h (by decide), hA, hK, fun k hk => ?_, fun k n f h => ?_, by decide, by decide, Nat.le_refl _, Nat.le_refl _, hlocks⟩
    · have e : ¬ k = 7 := by omega
      simp only [e, if_false]
      exact (had k hk).1
    · by_cases e : k = 7
      · subst e
        cases h
        exact hT7
      · simp only [e, if_false]
        by_cases hk : k < 7
        · refine (had k hk).2 n f ?_
          rw [← h]
          unfold XL
          split
          · exact absurd rfl e
          · rfl
        · exfalso
          match k, e, hk, h with
          | k + 8, _, _, h => cases h
          | 7, e, _, _ => exact e rfl
          | 6, _, hk, _ => exact hk (by decide)
          | 5, _, hk, _ => exact hk (by decide)
          | 4, _, hk, _ => exact hk (by decide)
          | 3, _, hk, _ => exact hk (by decide)
          | 2, _, hk, _ => exact hk (by decide)
          | 1, _, hk, _ => exact hk (by decide)
          | 0, _, hk, _ => exact hk (by decide)
  have hl := lv_entry ([.ref b]) (n := 8) (Nat.le_of_ble_eq_true rfl)
  rw [lg_entry_eq]
  generalize (lg_sl ([.ref b]) ++ List.replicate (8 - (lg_sl ([.ref b])).length) Slot.unset).toArray = ls at hl ⊢
  have hl : lv_has ls 8 [(0, .ref b)] := hl
  refine Lz_all (n := L) (f := xs) hL ok_L_law p l e room_1 s m #[Value.ref b] below meth c D (fun k => if k = 7 then b else ad k) (fun q : Nat => s.heap.size ≤ q) (fun _ => 0) (lw_Z below #[Value.ref b] s) cx ?_ (fun _ => 0) s.heap [] [] ls (Nat.zero_le _) (fun _ _ => rfl) ⟨fun k q h => by simp at h, ⟨fun i j p q h => by simp at h, fun k q h => by simp at h⟩, rfl, Nat.zero_le _, fun k o h => by simp at h⟩ va_S.rf hl ⟨by decide, fun q hq => by
    rcases List.mem_cons.mp hq with h | h
    · rw [h]; rfl
    · cases h⟩
  rintro ⟨pc, ls9, st, h9, cc, cs⟩ ⟨hc1, hc2, rv, hret, hΦ⟩
  intro am' H locs ws' lsC hn0 ham hH' hS hl' hg
  dsimp only at hc1 hc2 hret hΦ ⊢
  subst hΦ
  rcases hret with ⟨hi, v, ty, rfl, hv, -, -⟩ | ⟨-, -, hv, -⟩
  · cases hv
    generalize hq : mk m_L_law pc = q at hi
    obtain ⟨i, len, nx, v9, a, b9⟩ := q
    dsimp only at hi
    subst hi
    obtain ⟨d, -, -⟩ := ok_at ok_L_law hq (by simp [ilen])
    refine va_forget (fun q hq => hS.2.2 q hq) ?_
    refine W.widen (k := 600000) (n := 7302250) hc1 hc2 ?_
    exact lw_ret hx hb hr hlocks d
  · cases hv
-- ===== YOUR PART ENDS =====
set_option maxHeartbeats 4000000 in
theorem lw_walk (l : Launch) (hflags : l.flags = flags0) (b : Addr) (xs : List Int32) : MetFree l x (headSpec (Jvm.Cond.code x code maxLocals ret :: tables_1) room_1) (lw_P b xs) (fun _ _ _ _ _ => True) lw_Q := by
  refine MetFree.of_bodyS (code := code) (maxLocals := maxLocals) (ret := ret) (by decide) ?_ ?_
  · intro args s m h hn
    obtain ⟨meth, c, h1, h2, h3, h4, h5, h6, -, -⟩ := Cond.code_spec hn (atoms_spec (ws := Jvm.Cond.code x code maxLocals ret :: tables_1) h _ List.mem_cons_self)
    exact ⟨meth, c, h1, h2, h3, h4, h5, h6⟩
  · intro p e s m args below meth c s₁ B hml0 hP _
    obtain ⟨rfl, hx, hbd, hgv⟩ := hP
    obtain ⟨scr, harrAt, hlist, hof, hsmall⟩ := hx
    obtain ⟨hcb, hkn, -, -⟩ := State.arrayAt?_spec harrAt
    have hown : s.vm.findClass R_law = some m.cls := findClass_of_methodNamed B.named
    have hts0 : ∀ c ∈ (Jvm.Cond.code x code maxLocals ret :: tables_1), c.before #[Value.ref b] s = true := atoms_spec (ws := Jvm.Cond.code x code maxLocals ret :: tables_1) B.pre
    have hts : ∀ w ∈ lw_tbl, w.before #[Value.ref b] s = true := k2_hts_sels lw_privs (fun w hw => hts0 w (List.mem_cons_of_mem _ hw)) lw_privs_ok
    have hml : c.maxLocals = 8 := B.maxLocals_eq (hts0 _ List.mem_cons_self)
    have X₀ : Stand p l e room_1 s m #[Value.ref b] below meth c s₁ [] 0 0 := Stand.of_body B
    have hh0 : s₁.heap = s.heap := by rw [B.state]; rfl
    have hsz : scr.slots.size = xs.length := by rw [← Array.length_toList, hlist, List.length_map]
    have hval : ∀ j : Nat, j < xs.length → scr.slots[j]? = some (.int (xs.getD j 0)) := fun j hj => by
      rw [← Array.getElem?_toList, hlist]
      simp [hj]
    have hbl : b < s.heap.size := (Array.getElem?_eq_some_iff.mp hcb).1
    have hX : va_X b xs.length (fun j => xs.getD j 0) s s.heap := ⟨scr, hcb, hof, hkn, hsz, hval⟩
    have K : W p l e room_1 s m #[Value.ref b] below meth c s₁.heap [] 0 0 (lw_Z below #[Value.ref b] s) (entryFrame m ([Value.ref b] : List Value).toArray 8) := by
      rw [hh0]
      exact whole_start l hflags hbd ⟨B.exec, B.bytes, B.returns, hml, hown, hts, hX, hbl, B.notSynchronized, hgv⟩
    obtain ⟨t, a1, o, b1, b2, b3⟩ := K s₁ rfl X₀
    exact ⟨t, o, a1, b1, b2, b3⟩
theorem lw_pre_spec {args : Array Value} {s : State} (h : (Jvm.Cond.and given_1 narrow_1).before args s = true) (hr : rest_1_c.before args s = true) : ∃ (b : Addr) (xs : List Int32), lw_P b xs args s := by
  have hs := flat_of_before _ h
  have hq := flat_of_before _ hr
  have hc : (Cond.count 1).before args s = true := hs _ (by decide +kernel)
  have harr : (Cond.arrayOf (.arg 0) .int).before args s = true := hs _ (by decide +kernel)
  have hle : (Cond.le (.length (.arg 0)) (.int 260)).before args s = true := hs _ (by decide +kernel)
  have hlen : (Cond.isInt (.length (.arg 0))).before args s = true := hq _ (by decide +kernel)
  have hall : (Cond.all (.arg 0) (.isInt (.elem (.arg 0) (.index 0)))).before args s = true := hq _ (by decide +kernel)
  obtain ⟨b, xs, hb, hx⟩ := State.ints_of_pre rfl harr hlen hall
  have hsm : xs.length < 2 ^ 31 := hx.choose_spec.2.2.2
  have hev : (Term.length (.arg 0)).eval args s none [] s = some (.int xs.length.toInt32) := hx.length_eval hb
  have hv := Cond.le_ints hev (show (Term.int 260).eval args s none [] s = some (.int 260) from rfl)
  have hd : xs.length.toInt32 ≤ 260 := by
    simpa [Cond.before, Cond.holds, hv] using hle
  have hN : xs.length ≤ 260 := (Int32.ofNat_le_ofNat hsm (by decide)).mp (show Int32.ofNat xs.length ≤ Int32.ofNat 260 from hd)
  exact ⟨b, xs, Cond.one_arg hc (show args[0]? = some (.ref b) from hb), hx, hN, h⟩
theorem lw_comes (l : Launch) (hflags : l.flags = flags0) : Comes l x (Jvm.Cond.code x code maxLocals ret :: tables_1) room_1 (fun tb e args s => Calls_1 tb e args s ∧ rest_1 tb e args s ∧ Pre_1 tb e args s)
    (fun _ _ args s o t => lw_Q args s o t) := by
  intro p e ha hc hk s m args below hf hfit hheap happ hpre
  obtain ⟨b, xs, hP⟩ := lw_pre_spec hpre.2.2 hpre.2.1
  obtain ⟨k, o, h1, h2, h3, hQ⟩ := lw_walk l hflags b xs p e ha hc hk s m args below hf ((Spec.applies_iff_loose hf).mp happ).1 hP trivial
  exact ⟨k, o, h1, h2, h3, hQ⟩
theorem lw_frame {s t : State} {o : Outcome} {args : Array Value} (h : Framed s o t [] 600000 7302250) :
    Framed s o t (fieldLocs frame_1_writes args s ++ arrayLocs frame_1_arrays args s ++ staticLocs frame_1_statics s) 600000 7302250 := h
theorem lw_limb (L : Cond) (hL : ∀ (args : Array Value) (s t : State), L.after args s (.returned (some (.int 1))) t = true) :
    ArmFor flags0 classFile x code maxLocals ret World_1 tables_1 room_1 Calls_1 rest_1 Pre_1
      (fun tb e a s o t => postC L tb e a s o t ∧ Framed s o t (fieldLocs frame_1_writes a s ++ arrayLocs frame_1_arrays a s ++ staticLocs frame_1_statics s) 600000 7302250) := by
  intro l hflags _ _ p e ha hc hk s m args below hf hfit hheap happ hpre
  obtain ⟨k, o, h1, h2, h3, rfl, hF⟩ := lw_comes l hflags p e ha hc hk s m args below hf hfit hheap happ hpre
  exact ⟨k, _, h1, h2, h3, hL args s _, lw_frame hF⟩
theorem i_vc : Claimed_1_1 ∧ Claimed_1_2 := ⟨lw_limb limb_1_1 (fun args s t => by simp [limb_1_1, Cond.after, Cond.holds, Cond.value]), lw_limb limb_1_2 (fun args s t => Cond.after_iff.mpr (by
  first | (rw [show limb_1_2 = Cond.eq .result (.int 1) from rfl, Cond.eq_ints (x := 1) (y := 1) rfl rfl]; simp; done) | (simp [limb_1_2, Cond.value, Term.eval]; done)))⟩
end
