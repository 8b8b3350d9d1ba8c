section
-- ===== PART A: goes FIRST, ahead of the names: the tables' words, and 'selects' of the private methods out of them =====
/-- a private method of a class that the tables say can be made, by its rows of tables_1 -/
def lw_okq (q : MethodName × Nat) : Prop := (q.1.cls ≠ "java/lang/invoke/MethodHandle" ∧ q.1.cls ≠ "java/lang/invoke/VarHandle") ∧ Cond.instantiable q.1.cls q.2 ∈ tables_1 ∧ Cond.privateMethod q.1 ∈ tables_1 ∧ Cond.instanceMethod q.1 ∈ tables_1
theorem lw_p0 : lw_okq (⟨"BargeBallast", "change", "(II)I"⟩, 5) := ⟨⟨by decide +kernel, by decide +kernel⟩, List.mem_of_getElem? (i := 14) (by decide +kernel), List.mem_of_getElem? (i := 137) (by decide +kernel), List.mem_of_getElem? (i := 138) (by decide +kernel)⟩
theorem lw_p1 : lw_okq (⟨"BargeBallast$OrderText", "takes", "(C)Z"⟩, 6) := ⟨⟨by decide +kernel, by decide +kernel⟩, List.mem_of_getElem? (i := 55) (by decide +kernel), List.mem_of_getElem? (i := 179) (by decide +kernel), List.mem_of_getElem? (i := 180) (by decide +kernel)⟩
theorem lw_p2 : lw_okq (⟨"BargeBallast$OrderText", "takesLetter", "(C)Z"⟩, 6) := ⟨⟨by decide +kernel, by decide +kernel⟩, List.mem_of_getElem? (i := 55) (by decide +kernel), List.mem_of_getElem? (i := 183) (by decide +kernel), List.mem_of_getElem? (i := 184) (by decide +kernel)⟩
theorem lw_p3 : lw_okq (⟨"BargeBallast$OrderText", "takesFirstDigit", "(CCCI)Z"⟩, 6) := ⟨⟨by decide +kernel, by decide +kernel⟩, List.mem_of_getElem? (i := 55) (by decide +kernel), List.mem_of_getElem? (i := 191) (by decide +kernel), List.mem_of_getElem? (i := 192) (by decide +kernel)⟩
theorem lw_p4 : lw_okq (⟨"BargeBallast$OrderText", "takesEnd", "(C)Z"⟩, 6) := ⟨⟨by decide +kernel, by decide +kernel⟩, List.mem_of_getElem? (i := 55) (by decide +kernel), List.mem_of_getElem? (i := 195) (by decide +kernel), List.mem_of_getElem? (i := 196) (by decide +kernel)⟩
theorem lw_p5 : lw_okq (⟨"BargeBallast$OrderText", "takesNextDigit", "(C)Z"⟩, 6) := ⟨⟨by decide +kernel, by decide +kernel⟩, List.mem_of_getElem? (i := 55) (by decide +kernel), List.mem_of_getElem? (i := 199) (by decide +kernel), List.mem_of_getElem? (i := 200) (by decide +kernel)⟩
theorem lw_p6 : lw_okq (⟨"BargeBallast$Uprighting", "takeIfBetter", "(III)V"⟩, 3) := ⟨⟨by decide +kernel, by decide +kernel⟩, List.mem_of_getElem? (i := 442) (by decide +kernel), List.mem_of_getElem? (i := 453) (by decide +kernel), List.mem_of_getElem? (i := 454) (by decide +kernel)⟩
theorem lw_p7 : lw_okq (⟨"BargeBallastModel", "weight", "()I"⟩, 11) := ⟨⟨by decide +kernel, by decide +kernel⟩, List.mem_of_getElem? (i := 485) (by decide +kernel), List.mem_of_getElem? (i := 535) (by decide +kernel), List.mem_of_getElem? (i := 536) (by decide +kernel)⟩
theorem lw_p8 : lw_okq (⟨"BargeBallastModel", "allWater", "()I"⟩, 11) := ⟨⟨by decide +kernel, by decide +kernel⟩, List.mem_of_getElem? (i := 485) (by decide +kernel), List.mem_of_getElem? (i := 539) (by decide +kernel), List.mem_of_getElem? (i := 540) (by decide +kernel)⟩
theorem lw_p9 : lw_okq (⟨"BargeBallastModel", "know", "()V"⟩, 11) := ⟨⟨by decide +kernel, by decide +kernel⟩, List.mem_of_getElem? (i := 485) (by decide +kernel), List.mem_of_getElem? (i := 543) (by decide +kernel), List.mem_of_getElem? (i := 544) (by decide +kernel)⟩
theorem lw_p10 : lw_okq (⟨"BargeBallastModel", "puts", "(II)I"⟩, 11) := ⟨⟨by decide +kernel, by decide +kernel⟩, List.mem_of_getElem? (i := 485) (by decide +kernel), List.mem_of_getElem? (i := 554) (by decide +kernel), List.mem_of_getElem? (i := 555) (by decide +kernel)⟩
theorem lw_p11 : lw_okq (⟨"BargeBallastModel", "waits", "(II)I"⟩, 11) := ⟨⟨by decide +kernel, by decide +kernel⟩, List.mem_of_getElem? (i := 485) (by decide +kernel), List.mem_of_getElem? (i := 573) (by decide +kernel), List.mem_of_getElem? (i := 574) (by decide +kernel)⟩
theorem lw_p12 : lw_okq (⟨"BargeBallastModel", "ofKind", "(I)I"⟩, 11) := ⟨⟨by decide +kernel, by decide +kernel⟩, List.mem_of_getElem? (i := 485) (by decide +kernel), List.mem_of_getElem? (i := 581) (by decide +kernel), List.mem_of_getElem? (i := 582) (by decide +kernel)⟩
theorem lw_p13 : lw_okq (⟨"BargeBallastModel", "strikeAt", "(I)V"⟩, 11) := ⟨⟨by decide +kernel, by decide +kernel⟩, List.mem_of_getElem? (i := 485) (by decide +kernel), List.mem_of_getElem? (i := 585) (by decide +kernel), List.mem_of_getElem? (i := 586) (by decide +kernel)⟩
theorem lw_p14 : lw_okq (⟨"BargeBallastModel", "workOne", "()Z"⟩, 11) := ⟨⟨by decide +kernel, by decide +kernel⟩, List.mem_of_getElem? (i := 485) (by decide +kernel), List.mem_of_getElem? (i := 593) (by decide +kernel), List.mem_of_getElem? (i := 594) (by decide +kernel)⟩
theorem lw_p15 : lw_okq (⟨"BargeBallastModel", "reason", "(II)I"⟩, 11) := ⟨⟨by decide +kernel, by decide +kernel⟩, List.mem_of_getElem? (i := 485) (by decide +kernel), List.mem_of_getElem? (i := 597) (by decide +kernel), List.mem_of_getElem? (i := 598) (by decide +kernel)⟩
def lw_privs_1 : List (MethodName × Nat) := [(⟨"BargeBallast", "change", "(II)I"⟩, 5), (⟨"BargeBallast$OrderText", "takes", "(C)Z"⟩, 6), (⟨"BargeBallast$OrderText", "takesLetter", "(C)Z"⟩, 6), (⟨"BargeBallast$OrderText", "takesFirstDigit", "(CCCI)Z"⟩, 6), (⟨"BargeBallast$OrderText", "takesEnd", "(C)Z"⟩, 6), (⟨"BargeBallast$OrderText", "takesNextDigit", "(C)Z"⟩, 6), (⟨"BargeBallast$Uprighting", "takeIfBetter", "(III)V"⟩, 3), (⟨"BargeBallastModel", "weight", "()I"⟩, 11), (⟨"BargeBallastModel", "allWater", "()I"⟩, 11), (⟨"BargeBallastModel", "know", "()V"⟩, 11), (⟨"BargeBallastModel", "puts", "(II)I"⟩, 11), (⟨"BargeBallastModel", "waits", "(II)I"⟩, 11), (⟨"BargeBallastModel", "ofKind", "(I)I"⟩, 11), (⟨"BargeBallastModel", "strikeAt", "(I)V"⟩, 11), (⟨"BargeBallastModel", "workOne", "()Z"⟩, 11), (⟨"BargeBallastModel", "reason", "(II)I"⟩, 11)]
theorem lw_r1 : ∀ q ∈ lw_privs_1, lw_okq q := List.forall_mem_cons.mpr ⟨lw_p0, List.forall_mem_cons.mpr ⟨lw_p1, List.forall_mem_cons.mpr ⟨lw_p2, List.forall_mem_cons.mpr ⟨lw_p3, List.forall_mem_cons.mpr ⟨lw_p4, List.forall_mem_cons.mpr ⟨lw_p5, List.forall_mem_cons.mpr ⟨lw_p6, List.forall_mem_cons.mpr ⟨lw_p7, List.forall_mem_cons.mpr ⟨lw_p8, List.forall_mem_cons.mpr ⟨lw_p9, List.forall_mem_cons.mpr ⟨lw_p10, List.forall_mem_cons.mpr ⟨lw_p11, List.forall_mem_cons.mpr ⟨lw_p12, List.forall_mem_cons.mpr ⟨lw_p13, List.forall_mem_cons.mpr ⟨lw_p14, List.forall_mem_cons.mpr ⟨lw_p15, fun _ h => absurd h List.not_mem_nil⟩⟩⟩⟩⟩⟩⟩⟩⟩⟩⟩⟩⟩⟩⟩⟩
theorem lw_p16 : lw_okq (⟨"BargeBallastModel", "openTanks", "()I"⟩, 11) := ⟨⟨by decide +kernel, by decide +kernel⟩, List.mem_of_getElem? (i := 485) (by decide +kernel), List.mem_of_getElem? (i := 601) (by decide +kernel), List.mem_of_getElem? (i := 602) (by decide +kernel)⟩
theorem lw_p17 : lw_okq (⟨"BargeBallastModel", "canFill", "()Z"⟩, 11) := ⟨⟨by decide +kernel, by decide +kernel⟩, List.mem_of_getElem? (i := 485) (by decide +kernel), List.mem_of_getElem? (i := 605) (by decide +kernel), List.mem_of_getElem? (i := 606) (by decide +kernel)⟩
theorem lw_p18 : lw_okq (⟨"BargeBallastModel", "outermost", "(Z)I"⟩, 11) := ⟨⟨by decide +kernel, by decide +kernel⟩, List.mem_of_getElem? (i := 485) (by decide +kernel), List.mem_of_getElem? (i := 609) (by decide +kernel), List.mem_of_getElem? (i := 610) (by decide +kernel)⟩
theorem lw_p19 : lw_okq (⟨"BargeBallastModel", "canEmpty", "()Z"⟩, 11) := ⟨⟨by decide +kernel, by decide +kernel⟩, List.mem_of_getElem? (i := 485) (by decide +kernel), List.mem_of_getElem? (i := 613) (by decide +kernel), List.mem_of_getElem? (i := 614) (by decide +kernel)⟩
theorem lw_p20 : lw_okq (⟨"BargeBallastModel", "canLevel", "()Z"⟩, 11) := ⟨⟨by decide +kernel, by decide +kernel⟩, List.mem_of_getElem? (i := 485) (by decide +kernel), List.mem_of_getElem? (i := 617) (by decide +kernel), List.mem_of_getElem? (i := 618) (by decide +kernel)⟩
theorem lw_p21 : lw_okq (⟨"BargeBallastModel", "minute", "(I)V"⟩, 11) := ⟨⟨by decide +kernel, by decide +kernel⟩, List.mem_of_getElem? (i := 485) (by decide +kernel), List.mem_of_getElem? (i := 621) (by decide +kernel), List.mem_of_getElem? (i := 622) (by decide +kernel)⟩
theorem lw_p22 : lw_okq (⟨"BargeBallastModel", "pump", "(I)V"⟩, 11) := ⟨⟨by decide +kernel, by decide +kernel⟩, List.mem_of_getElem? (i := 485) (by decide +kernel), List.mem_of_getElem? (i := 625) (by decide +kernel), List.mem_of_getElem? (i := 626) (by decide +kernel)⟩
theorem lw_p23 : lw_okq (⟨"BargeBallastModel", "move", "(II)V"⟩, 11) := ⟨⟨by decide +kernel, by decide +kernel⟩, List.mem_of_getElem? (i := 485) (by decide +kernel), List.mem_of_getElem? (i := 629) (by decide +kernel), List.mem_of_getElem? (i := 630) (by decide +kernel)⟩
theorem lw_p24 : lw_okq (⟨"BargeBallastModel", "list", "()I"⟩, 11) := ⟨⟨by decide +kernel, by decide +kernel⟩, List.mem_of_getElem? (i := 485) (by decide +kernel), List.mem_of_getElem? (i := 633) (by decide +kernel), List.mem_of_getElem? (i := 634) (by decide +kernel)⟩
theorem lw_p25 : lw_okq (⟨"BargeBallastModel", "listMoment", "()I"⟩, 11) := ⟨⟨by decide +kernel, by decide +kernel⟩, List.mem_of_getElem? (i := 485) (by decide +kernel), List.mem_of_getElem? (i := 637) (by decide +kernel), List.mem_of_getElem? (i := 638) (by decide +kernel)⟩
theorem lw_p26 : lw_okq (⟨"BargeBallastModel", "go", "(Z)I"⟩, 11) := ⟨⟨by decide +kernel, by decide +kernel⟩, List.mem_of_getElem? (i := 485) (by decide +kernel), List.mem_of_getElem? (i := 667) (by decide +kernel), List.mem_of_getElem? (i := 668) (by decide +kernel)⟩
theorem lw_p27 : lw_okq (⟨"BargeBallastModel", "read", "()V"⟩, 11) := ⟨⟨by decide +kernel, by decide +kernel⟩, List.mem_of_getElem? (i := 485) (by decide +kernel), List.mem_of_getElem? (i := 671) (by decide +kernel), List.mem_of_getElem? (i := 672) (by decide +kernel)⟩
theorem lw_p28 : lw_okq (⟨"BargeBallastModel", "sign", "(II)I"⟩, 11) := ⟨⟨by decide +kernel, by decide +kernel⟩, List.mem_of_getElem? (i := 485) (by decide +kernel), List.mem_of_getElem? (i := 675) (by decide +kernel), List.mem_of_getElem? (i := 676) (by decide +kernel)⟩
theorem lw_p29 : lw_okq (⟨"BargeBallastModel", "groupsOf", "(I)I"⟩, 11) := ⟨⟨by decide +kernel, by decide +kernel⟩, List.mem_of_getElem? (i := 485) (by decide +kernel), List.mem_of_getElem? (i := 695) (by decide +kernel), List.mem_of_getElem? (i := 696) (by decide +kernel)⟩
theorem lw_p30 : lw_okq (⟨"BargeBallastModel", "toldLoss", "(I)I"⟩, 11) := ⟨⟨by decide +kernel, by decide +kernel⟩, List.mem_of_getElem? (i := 485) (by decide +kernel), List.mem_of_getElem? (i := 699) (by decide +kernel), List.mem_of_getElem? (i := 700) (by decide +kernel)⟩
theorem lw_p31 : lw_okq (⟨"BargeBallastModel", "waterOf", "(I)I"⟩, 11) := ⟨⟨by decide +kernel, by decide +kernel⟩, List.mem_of_getElem? (i := 485) (by decide +kernel), List.mem_of_getElem? (i := 715) (by decide +kernel), List.mem_of_getElem? (i := 716) (by decide +kernel)⟩
def lw_privs_2 : List (MethodName × Nat) := [(⟨"BargeBallastModel", "openTanks", "()I"⟩, 11), (⟨"BargeBallastModel", "canFill", "()Z"⟩, 11), (⟨"BargeBallastModel", "outermost", "(Z)I"⟩, 11), (⟨"BargeBallastModel", "canEmpty", "()Z"⟩, 11), (⟨"BargeBallastModel", "canLevel", "()Z"⟩, 11), (⟨"BargeBallastModel", "minute", "(I)V"⟩, 11), (⟨"BargeBallastModel", "pump", "(I)V"⟩, 11), (⟨"BargeBallastModel", "move", "(II)V"⟩, 11), (⟨"BargeBallastModel", "list", "()I"⟩, 11), (⟨"BargeBallastModel", "listMoment", "()I"⟩, 11), (⟨"BargeBallastModel", "go", "(Z)I"⟩, 11), (⟨"BargeBallastModel", "read", "()V"⟩, 11), (⟨"BargeBallastModel", "sign", "(II)I"⟩, 11), (⟨"BargeBallastModel", "groupsOf", "(I)I"⟩, 11), (⟨"BargeBallastModel", "toldLoss", "(I)I"⟩, 11), (⟨"BargeBallastModel", "waterOf", "(I)I"⟩, 11)]
theorem lw_r2 : ∀ q ∈ lw_privs_2, lw_okq q := List.forall_mem_cons.mpr ⟨lw_p16, List.forall_mem_cons.mpr ⟨lw_p17, List.forall_mem_cons.mpr ⟨lw_p18, List.forall_mem_cons.mpr ⟨lw_p19, List.forall_mem_cons.mpr ⟨lw_p20, List.forall_mem_cons.mpr ⟨lw_p21, List.forall_mem_cons.mpr ⟨lw_p22, List.forall_mem_cons.mpr ⟨lw_p23, List.forall_mem_cons.mpr ⟨lw_p24, List.forall_mem_cons.mpr ⟨lw_p25, List.forall_mem_cons.mpr ⟨lw_p26, List.forall_mem_cons.mpr ⟨lw_p27, List.forall_mem_cons.mpr ⟨lw_p28, List.forall_mem_cons.mpr ⟨lw_p29, List.forall_mem_cons.mpr ⟨lw_p30, List.forall_mem_cons.mpr ⟨lw_p31, fun _ h => absurd h List.not_mem_nil⟩⟩⟩⟩⟩⟩⟩⟩⟩⟩⟩⟩⟩⟩⟩⟩
theorem lw_p32 : lw_okq (⟨"BargeBallastModel", "trimAbout", "(I)I"⟩, 11) := ⟨⟨by decide +kernel, by decide +kernel⟩, List.mem_of_getElem? (i := 485) (by decide +kernel), List.mem_of_getElem? (i := 727) (by decide +kernel), List.mem_of_getElem? (i := 728) (by decide +kernel)⟩
def lw_privs_3 : List (MethodName × Nat) := [(⟨"BargeBallastModel", "trimAbout", "(I)I"⟩, 11)]
theorem lw_r3 : ∀ q ∈ lw_privs_3, lw_okq q := List.forall_mem_cons.mpr ⟨lw_p32, fun _ h => absurd h List.not_mem_nil⟩
def lw_privs : List (MethodName × Nat) := lw_privs_1 ++ (lw_privs_2 ++ (lw_privs_3))
def lw_tbl : List Cond := k2_sels lw_privs ++ tables_1
theorem lw_privs_ok : ∀ q ∈ lw_privs, lw_okq q := by
  show ∀ q ∈ lw_privs_1 ++ (lw_privs_2 ++ (lw_privs_3)), lw_okq q
  exact List.forall_mem_append.mpr ⟨lw_r1, List.forall_mem_append.mpr ⟨lw_r2, lw_r3⟩⟩
-- ===== end of PART A; then your names; then what follows =====
end
section
def RX0 : String := "BargeBallast$History"
def TX0 : u_T := fun k => match k with
  | 0 => ("BargeBallast$History", "rows", "[[I", true)
  | 1 => ("BargeBallast$History", "next", "I", false)
  | _ => ("BargeBallast$History", "length", "I", false)
def tyX0 : Nat → FieldType := fun k => match k with
  | 0 => .array (.array .int)
  | 1 => .int
  | _ => .int
abbrev wsX00 : List Cond := u_ws RX0 TX0 3
theorem nmX0 : ∀ a, a < 3 → ∀ b, b < 3 → a ≠ b → (TX0 a).2.1 ≠ (TX0 b).2.1 := by decide +kernel
theorem tyX0_ok : ∀ k, k < 3 → parseFieldDescriptor (TX0 k).2.2.1 = some (tyX0 k) := by decide +kernel
abbrev cX0_init : ByteArray := prog_2_method_1_code
def yX0_init : MethodName := ⟨RX0, "<init>", "()V"⟩
abbrev cX0_length : ByteArray := prog_2_method_2_code
def yX0_length : MethodName := ⟨RX0, "length", "()I"⟩
abbrev cX0_record : ByteArray := prog_2_method_3_code
def yX0_record : MethodName := ⟨RX0, "record", "(LBargeBallast$State;)V"⟩
abbrev cX0_bringBack : ByteArray := prog_2_method_4_code
def yX0_bringBack : MethodName := ⟨RX0, "bringBack", "(LBargeBallast$State;)V"⟩
def RX1 : String := "BargeBallast$Minutes"
def TX1 : u_T := fun k => match k with
  | _ => ("", "", "", false)
def tyX1 : Nat → FieldType := fun k => match k with
  | _ => .int
abbrev wsX10 : List Cond := u_ws RX1 TX1 0
theorem nmX1 : ∀ a, a < 0 → ∀ b, b < 0 → a ≠ b → (TX1 a).2.1 ≠ (TX1 b).2.1 := by decide +kernel
theorem tyX1_ok : ∀ k, k < 0 → parseFieldDescriptor (TX1 k).2.2.1 = some (tyX1 k) := by decide +kernel
abbrev cX1_run : ByteArray := prog_3_method_2_code
def yX1_run : MethodName := ⟨RX1, "run", "(LBargeBallast$State;II)V"⟩
abbrev cX1_leakOut : ByteArray := prog_3_method_3_code
def yX1_leakOut : MethodName := ⟨RX1, "leakOut", "(LBargeBallast$State;)V"⟩
abbrev cX1_shiftCargo : ByteArray := prog_3_method_4_code
def yX1_shiftCargo : MethodName := ⟨RX1, "shiftCargo", "(LBargeBallast$State;)V"⟩
def RX2 : String := "BargeBallast$OrderRow"
def TX2 : u_T := fun k => match k with
  | _ => ("", "", "", false)
def tyX2 : Nat → FieldType := fun k => match k with
  | _ => .int
abbrev wsX20 : List Cond := u_ws RX2 TX2 0
theorem nmX2 : ∀ a, a < 0 → ∀ b, b < 0 → a ≠ b → (TX2 a).2.1 ≠ (TX2 b).2.1 := by decide +kernel
theorem tyX2_ok : ∀ k, k < 0 → parseFieldDescriptor (TX2 k).2.2.1 = some (tyX2 k) := by decide +kernel
abbrev cX2_append : ByteArray := prog_4_method_2_code
def yX2_append : MethodName := ⟨RX2, "append", "(LBargeBallast$State;II)V"⟩
abbrev cX2_putAt : ByteArray := prog_4_method_3_code
def yX2_putAt : MethodName := ⟨RX2, "putAt", "(LBargeBallast$State;III)V"⟩
abbrev cX2_has : ByteArray := prog_4_method_4_code
def yX2_has : MethodName := ⟨RX2, "has", "(LBargeBallast$State;I)Z"⟩
abbrev cX2_strikeOut : ByteArray := prog_4_method_5_code
def yX2_strikeOut : MethodName := ⟨RX2, "strikeOut", "(LBargeBallast$State;I)I"⟩
abbrev cX2_workFirst : ByteArray := prog_4_method_6_code
def yX2_workFirst : MethodName := ⟨RX2, "workFirst", "(LBargeBallast$State;)V"⟩
abbrev cX2_takeFirstOff : ByteArray := prog_4_method_7_code
def yX2_takeFirstOff : MethodName := ⟨RX2, "takeFirstOff", "(LBargeBallast$State;)V"⟩
abbrev cX2_reasonToRefuse : ByteArray := prog_4_method_8_code
def yX2_reasonToRefuse : MethodName := ⟨RX2, "reasonToRefuse", "(LBargeBallast$State;II)I"⟩
def RX3 : String := "BargeBallast$OrderText"
def TX3 : u_T := fun k => match k with
  | 0 => ("BargeBallast$OrderText", "signs", "[C", true)
  | 1 => ("BargeBallast$OrderText", "length", "I", false)
  | 2 => ("BargeBallast$OrderText", "kinds", "[I", true)
  | 3 => ("BargeBallast$OrderText", "bys", "[I", true)
  | 4 => ("BargeBallast$OrderText", "orders", "I", false)
  | _ => ("BargeBallast$OrderText", "expected", "I", false)
def tyX3 : Nat → FieldType := fun k => match k with
  | 0 => .array .char
  | 1 => .int
  | 2 => .array .int
  | 3 => .array .int
  | 4 => .int
  | _ => .int
abbrev wsX30 : List Cond := u_ws RX3 TX3 6
theorem nmX3 : ∀ a, a < 6 → ∀ b, b < 6 → a ≠ b → (TX3 a).2.1 ≠ (TX3 b).2.1 := by decide +kernel
theorem tyX3_ok : ∀ k, k < 6 → parseFieldDescriptor (TX3 k).2.2.1 = some (tyX3 k) := by decide +kernel
abbrev cX3_init : ByteArray := prog_5_method_1_code
def yX3_init : MethodName := ⟨RX3, "<init>", "()V"⟩
abbrev cX3_length : ByteArray := prog_5_method_2_code
def yX3_length : MethodName := ⟨RX3, "length", "()I"⟩
abbrev cX3_add : ByteArray := prog_5_method_3_code
def yX3_add : MethodName := ⟨RX3, "add", "(C)Z"⟩
abbrev cX3_clear : ByteArray := prog_5_method_4_code
def yX3_clear : MethodName := ⟨RX3, "clear", "()V"⟩
abbrev cX3_read : ByteArray := prog_5_method_5_code
def yX3_read : MethodName := ⟨RX3, "read", "()I"⟩
abbrev cX3_orders : ByteArray := prog_5_method_6_code
def yX3_orders : MethodName := ⟨RX3, "orders", "()I"⟩
abbrev cX3_kindOf : ByteArray := prog_5_method_7_code
def yX3_kindOf : MethodName := ⟨RX3, "kindOf", "(I)I"⟩
abbrev cX3_byOf : ByteArray := prog_5_method_8_code
def yX3_byOf : MethodName := ⟨RX3, "byOf", "(I)I"⟩
abbrev cX3_takes : ByteArray := prog_5_method_9_code
def yX3_takes : MethodName := ⟨RX3, "takes", "(C)Z"⟩
abbrev cX3_takesLetter : ByteArray := prog_5_method_10_code
def yX3_takesLetter : MethodName := ⟨RX3, "takesLetter", "(C)Z"⟩
abbrev cX3_kindOfLetter : ByteArray := prog_5_method_11_code
def yX3_kindOfLetter : MethodName := ⟨RX3, "kindOfLetter", "(C)I"⟩
abbrev cX3_takesFirstDigit : ByteArray := prog_5_method_12_code
def yX3_takesFirstDigit : MethodName := ⟨RX3, "takesFirstDigit", "(CCCI)Z"⟩
abbrev cX3_takesNextDigit : ByteArray := prog_5_method_13_code
def yX3_takesNextDigit : MethodName := ⟨RX3, "takesNextDigit", "(C)Z"⟩
abbrev cX3_takesEnd : ByteArray := prog_5_method_14_code
def yX3_takesEnd : MethodName := ⟨RX3, "takesEnd", "(C)Z"⟩
def RX4 : String := "BargeBallast$Pump"
def TX4 : u_T := fun k => match k with
  | _ => ("", "", "", false)
def tyX4 : Nat → FieldType := fun k => match k with
  | _ => .int
abbrev wsX40 : List Cond := u_ws RX4 TX4 0
theorem nmX4 : ∀ a, a < 0 → ∀ b, b < 0 → a ≠ b → (TX4 a).2.1 ≠ (TX4 b).2.1 := by decide +kernel
theorem tyX4_ok : ∀ k, k < 0 → parseFieldDescriptor (TX4 k).2.2.1 = some (tyX4 k) := by decide +kernel
abbrev cX4_tankToFill : ByteArray := prog_6_method_2_code
def yX4_tankToFill : MethodName := ⟨RX4, "tankToFill", "(LBargeBallast$State;I)I"⟩
abbrev cX4_tankToEmpty : ByteArray := prog_6_method_3_code
def yX4_tankToEmpty : MethodName := ⟨RX4, "tankToEmpty", "(LBargeBallast$State;I)I"⟩
abbrev cX4_tankToLower : ByteArray := prog_6_method_4_code
def yX4_tankToLower : MethodName := ⟨RX4, "tankToLower", "(LBargeBallast$State;I)I"⟩
abbrev cX4_moveUnit : ByteArray := prog_6_method_5_code
def yX4_moveUnit : MethodName := ⟨RX4, "moveUnit", "(LBargeBallast$State;II)Z"⟩
abbrev cX4_fillUnit : ByteArray := prog_6_method_6_code
def yX4_fillUnit : MethodName := ⟨RX4, "fillUnit", "(LBargeBallast$State;I)Z"⟩
abbrev cX4_emptyUnit : ByteArray := prog_6_method_7_code
def yX4_emptyUnit : MethodName := ⟨RX4, "emptyUnit", "(LBargeBallast$State;I)Z"⟩
abbrev cX4_levelUnit : ByteArray := prog_6_method_8_code
def yX4_levelUnit : MethodName := ⟨RX4, "levelUnit", "(LBargeBallast$State;II)Z"⟩
abbrev cX4_moveBy : ByteArray := prog_6_method_9_code
def yX4_moveBy : MethodName := ⟨RX4, "moveBy", "(LBargeBallast$State;II)V"⟩
def RX5 : String := "BargeBallast$Soundings"
def TX5 : u_T := fun k => match k with
  | _ => ("", "", "", false)
def tyX5 : Nat → FieldType := fun k => match k with
  | _ => .int
abbrev wsX50 : List Cond := u_ws RX5 TX5 0
theorem nmX5 : ∀ a, a < 0 → ∀ b, b < 0 → a ≠ b → (TX5 a).2.1 ≠ (TX5 b).2.1 := by decide +kernel
theorem tyX5_ok : ∀ k, k < 0 → parseFieldDescriptor (TX5 k).2.2.1 = some (tyX5 k) := by decide +kernel
abbrev cX5_place : ByteArray := prog_7_method_2_code
def yX5_place : MethodName := ⟨RX5, "place", "(II)I"⟩
abbrev cX5_put : ByteArray := prog_7_method_3_code
def yX5_put : MethodName := ⟨RX5, "put", "(LBargeBallast$State;I)V"⟩
abbrev cX5_putAt : ByteArray := prog_7_method_4_code
def yX5_putAt : MethodName := ⟨RX5, "putAt", "(LBargeBallast$State;IIII)V"⟩
abbrev cX5_isLossTold : ByteArray := prog_7_method_5_code
def yX5_isLossTold : MethodName := ⟨RX5, "isLossTold", "(LBargeBallast$State;I)Z"⟩
abbrev cX5_loss : ByteArray := prog_7_method_6_code
def yX5_loss : MethodName := ⟨RX5, "loss", "(LBargeBallast$State;I)I"⟩
def RX6 : String := "BargeBallast$State"
def TX6 : u_T := fun k => match k with
  | _ => ("BargeBallast$State", "cells", "[I", true)
def tyX6 : Nat → FieldType := fun k => match k with
  | _ => .array .int
abbrev wsX60 : List Cond := u_ws RX6 TX6 1
theorem nmX6 : ∀ a, a < 1 → ∀ b, b < 1 → a ≠ b → (TX6 a).2.1 ≠ (TX6 b).2.1 := by decide +kernel
theorem tyX6_ok : ∀ k, k < 1 → parseFieldDescriptor (TX6 k).2.2.1 = some (tyX6 k) := by decide +kernel
abbrev cX6_init : ByteArray := prog_8_method_1_code
def yX6_init : MethodName := ⟨RX6, "<init>", "()V"⟩
abbrev cX6_at : ByteArray := prog_8_method_2_code
def yX6_at : MethodName := ⟨RX6, "at", "(I)I"⟩
abbrev cX6_put : ByteArray := prog_8_method_3_code
def yX6_put : MethodName := ⟨RX6, "put", "(II)V"⟩
abbrev cX6_add : ByteArray := prog_8_method_4_code
def yX6_add : MethodName := ⟨RX6, "add", "(II)V"⟩
abbrev cX6_copyTo : ByteArray := prog_8_method_5_code
def yX6_copyTo : MethodName := ⟨RX6, "copyTo", "([I)V"⟩
abbrev cX6_copyFrom : ByteArray := prog_8_method_6_code
def yX6_copyFrom : MethodName := ⟨RX6, "copyFrom", "([I)V"⟩
abbrev cX6_isIn : ByteArray := prog_8_method_7_code
def yX6_isIn : MethodName := ⟨RX6, "isIn", "(II)Z"⟩
abbrev cX6_waterIn : ByteArray := prog_8_method_8_code
def yX6_waterIn : MethodName := ⟨RX6, "waterIn", "(I)I"⟩
abbrev cX6_lostByLeaks : ByteArray := prog_8_method_9_code
def yX6_lostByLeaks : MethodName := ⟨RX6, "lostByLeaks", "()I"⟩
abbrev cX6_weight : ByteArray := prog_8_method_10_code
def yX6_weight : MethodName := ⟨RX6, "weight", "()I"⟩
abbrev cX6_trimMomentAbout : ByteArray := prog_8_method_11_code
def yX6_trimMomentAbout : MethodName := ⟨RX6, "trimMomentAbout", "(I)I"⟩
abbrev cX6_trim : ByteArray := prog_8_method_12_code
def yX6_trim : MethodName := ⟨RX6, "trim", "()I"⟩
abbrev cX6_listMoment : ByteArray := prog_8_method_13_code
def yX6_listMoment : MethodName := ⟨RX6, "listMoment", "()I"⟩
abbrev cX6_list : ByteArray := prog_8_method_14_code
def yX6_list : MethodName := ⟨RX6, "list", "()I"⟩
abbrev cX6_listOf : ByteArray := prog_8_method_15_code
def yX6_listOf : MethodName := ⟨RX6, "listOf", "(II)I"⟩
abbrev cX6_draughtOf : ByteArray := prog_8_method_16_code
def yX6_draughtOf : MethodName := ⟨RX6, "draughtOf", "(I)I"⟩
abbrev cX6_openTanks : ByteArray := prog_8_method_17_code
def yX6_openTanks : MethodName := ⟨RX6, "openTanks", "()I"⟩
abbrev cX6_groupsWith : ByteArray := prog_8_method_18_code
def yX6_groupsWith : MethodName := ⟨RX6, "groupsWith", "(I)I"⟩
abbrev cX6_emptiest : ByteArray := prog_8_method_19_code
def yX6_emptiest : MethodName := ⟨RX6, "emptiest", "(I)I"⟩
abbrev cX6_fullest : ByteArray := prog_8_method_20_code
def yX6_fullest : MethodName := ⟨RX6, "fullest", "(I)I"⟩
def RX7 : String := "BargeBallast$Uprighting"
def TX7 : u_T := fun k => match k with
  | 0 => ("BargeBallast$Uprighting", "tank", "I", false)
  | 1 => ("BargeBallast$Uprighting", "change", "I", false)
  | _ => ("BargeBallast$Uprighting", "list", "I", false)
def tyX7 : Nat → FieldType := fun k => match k with
  | 0 => .int
  | 1 => .int
  | _ => .int
abbrev wsX70 : List Cond := u_ws RX7 TX7 3
theorem nmX7 : ∀ a, a < 3 → ∀ b, b < 3 → a ≠ b → (TX7 a).2.1 ≠ (TX7 b).2.1 := by decide +kernel
theorem tyX7_ok : ∀ k, k < 3 → parseFieldDescriptor (TX7 k).2.2.1 = some (tyX7 k) := by decide +kernel
abbrev cX7_init : ByteArray := prog_9_method_1_code
def yX7_init : MethodName := ⟨RX7, "<init>", "(LBargeBallast$State;I)V"⟩
abbrev cX7_takeIfBetter : ByteArray := prog_9_method_2_code
def yX7_takeIfBetter : MethodName := ⟨RX7, "takeIfBetter", "(III)V"⟩
def RX8 : String := "BargeBallast"
def TX8 : u_T := fun k => match k with
  | 0 => ("BargeBallast", "now", "LBargeBallast$State;", true)
  | 1 => ("BargeBallast", "history", "LBargeBallast$History;", true)
  | 2 => ("BargeBallast", "snapshot", "[I", true)
  | 3 => ("BargeBallast", "hasSnapshot", "Z", false)
  | _ => ("BargeBallast", "text", "LBargeBallast$OrderText;", true)
def tyX8 : Nat → FieldType := fun k => match k with
  | 0 => .object "BargeBallast$State"
  | 1 => .object "BargeBallast$History"
  | 2 => .array .int
  | 3 => .boolean
  | _ => .object "BargeBallast$OrderText"
abbrev wsX80 : List Cond := u_ws RX8 TX8 5
theorem nmX8 : ∀ a, a < 5 → ∀ b, b < 5 → a ≠ b → (TX8 a).2.1 ≠ (TX8 b).2.1 := by decide +kernel
theorem tyX8_ok : ∀ k, k < 5 → parseFieldDescriptor (TX8 k).2.2.1 = some (tyX8 k) := by decide +kernel
abbrev cX8_init : ByteArray := prog_1_method_1_code
def yX8_init : MethodName := ⟨RX8, "<init>", "()V"⟩
abbrev cX8_load : ByteArray := prog_1_method_2_code
def yX8_load : MethodName := ⟨RX8, "load", "(III)I"⟩
abbrev cX8_leak : ByteArray := prog_1_method_3_code
def yX8_leak : MethodName := ⟨RX8, "leak", "(II)I"⟩
abbrev cX8_setGroup : ByteArray := prog_1_method_4_code
def yX8_setGroup : MethodName := ⟨RX8, "setGroup", "(II)I"⟩
abbrev cX8_set : ByteArray := prog_1_method_5_code
def yX8_set : MethodName := ⟨RX8, "set", "(II)I"⟩
abbrev cX8_order : ByteArray := prog_1_method_6_code
def yX8_order : MethodName := ⟨RX8, "order", "(II)I"⟩
abbrev cX8_orderAll : ByteArray := prog_1_method_7_code
def yX8_orderAll : MethodName := ⟨RX8, "orderAll", "()I"⟩
abbrev cX8_strike : ByteArray := prog_1_method_8_code
def yX8_strike : MethodName := ⟨RX8, "strike", "(I)I"⟩
abbrev cX8_work : ByteArray := prog_1_method_9_code
def yX8_work : MethodName := ⟨RX8, "work", "(I)I"⟩
abbrev cX8_pass : ByteArray := prog_1_method_10_code
def yX8_pass : MethodName := ⟨RX8, "pass", "(I)I"⟩
abbrev cX8_sound : ByteArray := prog_1_method_11_code
def yX8_sound : MethodName := ⟨RX8, "sound", "(I)I"⟩
abbrev cX8_type : ByteArray := prog_1_method_12_code
def yX8_type : MethodName := ⟨RX8, "type", "(C)I"⟩
abbrev cX8_clearText : ByteArray := prog_1_method_13_code
def yX8_clearText : MethodName := ⟨RX8, "clearText", "()I"⟩
abbrev cX8_undo : ByteArray := prog_1_method_14_code
def yX8_undo : MethodName := ⟨RX8, "undo", "()I"⟩
abbrev cX8_keep : ByteArray := prog_1_method_15_code
def yX8_keep : MethodName := ⟨RX8, "keep", "()I"⟩
abbrev cX8_restore : ByteArray := prog_1_method_16_code
def yX8_restore : MethodName := ⟨RX8, "restore", "()I"⟩
abbrev cX8_tank : ByteArray := prog_1_method_17_code
def yX8_tank : MethodName := ⟨RX8, "tank", "(II)I"⟩
abbrev cX8_sounding : ByteArray := prog_1_method_18_code
def yX8_sounding : MethodName := ⟨RX8, "sounding", "(IIZ)I"⟩
abbrev cX8_hold : ByteArray := prog_1_method_19_code
def yX8_hold : MethodName := ⟨RX8, "hold", "(II)I"⟩
abbrev cX8_group : ByteArray := prog_1_method_20_code
def yX8_group : MethodName := ⟨RX8, "group", "(II)I"⟩
abbrev cX8_waiting : ByteArray := prog_1_method_21_code
def yX8_waiting : MethodName := ⟨RX8, "waiting", "(II)I"⟩
abbrev cX8_trimMoment : ByteArray := prog_1_method_22_code
def yX8_trimMoment : MethodName := ⟨RX8, "trimMoment", "(I)I"⟩
abbrev cX8_upright : ByteArray := prog_1_method_23_code
def yX8_upright : MethodName := ⟨RX8, "upright", "(II)I"⟩
abbrev cX8_count : ByteArray := prog_1_method_24_code
def yX8_count : MethodName := ⟨RX8, "count", "(I)I"⟩
abbrev cX8_isWithin : ByteArray := prog_1_method_25_code
def yX8_isWithin : MethodName := ⟨RX8, "isWithin", "(III)Z"⟩
abbrev cX8_isRightBy : ByteArray := prog_1_method_26_code
def yX8_isRightBy : MethodName := ⟨RX8, "isRightBy", "(II)Z"⟩
abbrev cX8_isValve : ByteArray := prog_1_method_27_code
def yX8_isValve : MethodName := ⟨RX8, "isValve", "(I)Z"⟩
abbrev cX8_change : ByteArray := prog_1_method_28_code
def yX8_change : MethodName := ⟨RX8, "change", "(II)I"⟩
def RX9 : String := "BargeBallastModel"
def TX9 : u_T := fun k => match k with
  | 0 => ("BargeBallastModel", "s", "[I", true)
  | 1 => ("BargeBallastModel", "before", "[I", true)
  | 2 => ("BargeBallastModel", "known", "I", false)
  | 3 => ("BargeBallastModel", "kept", "[I", true)
  | 4 => ("BargeBallastModel", "isKept", "Z", false)
  | 5 => ("BargeBallastModel", "text", "[I", true)
  | 6 => ("BargeBallastModel", "typed", "I", false)
  | 7 => ("BargeBallastModel", "at", "I", false)
  | 8 => ("BargeBallastModel", "isWrong", "Z", false)
  | 9 => ("BargeBallastModel", "kind", "I", false)
  | _ => ("BargeBallastModel", "by", "I", false)
def tyX9 : Nat → FieldType := fun k => match k with
  | 0 => .array .int
  | 1 => .array .int
  | 2 => .int
  | 3 => .array .int
  | 4 => .boolean
  | 5 => .array .int
  | 6 => .int
  | 7 => .int
  | 8 => .boolean
  | 9 => .int
  | _ => .int
abbrev wsX90 : List Cond := u_ws RX9 TX9 11
theorem nmX9 : ∀ a, a < 11 → ∀ b, b < 11 → a ≠ b → (TX9 a).2.1 ≠ (TX9 b).2.1 := by decide +kernel
theorem tyX9_ok : ∀ k, k < 11 → parseFieldDescriptor (TX9 k).2.2.1 = some (tyX9 k) := by decide +kernel
abbrev cX9_init : ByteArray := prog_11_method_1_code
def yX9_init : MethodName := ⟨RX9, "<init>", "()V"⟩
abbrev cX9_in : ByteArray := prog_11_method_3_code
def yX9_in : MethodName := ⟨RX9, "in", "(III)Z"⟩
abbrev cX9_isTank : ByteArray := prog_11_method_4_code
def yX9_isTank : MethodName := ⟨RX9, "isTank", "(I)Z"⟩
abbrev cX9_isGroup : ByteArray := prog_11_method_5_code
def yX9_isGroup : MethodName := ⟨RX9, "isGroup", "(I)Z"⟩
abbrev cX9_isHold : ByteArray := prog_11_method_6_code
def yX9_isHold : MethodName := ⟨RX9, "isHold", "(I)Z"⟩
abbrev cX9_know : ByteArray := prog_11_method_7_code
def yX9_know : MethodName := ⟨RX9, "know", "()V"⟩
abbrev cX9_puts : ByteArray := prog_11_method_8_code
def yX9_puts : MethodName := ⟨RX9, "puts", "(II)I"⟩
abbrev cX9_allWater : ByteArray := prog_11_method_9_code
def yX9_allWater : MethodName := ⟨RX9, "allWater", "()I"⟩
abbrev cX9_weight : ByteArray := prog_11_method_10_code
def yX9_weight : MethodName := ⟨RX9, "weight", "()I"⟩
abbrev cX9_armOf : ByteArray := prog_11_method_11_code
def yX9_armOf : MethodName := ⟨RX9, "armOf", "(I)I"⟩
abbrev cX9_trimAbout : ByteArray := prog_11_method_12_code
def yX9_trimAbout : MethodName := ⟨RX9, "trimAbout", "(I)I"⟩
abbrev cX9_listMoment : ByteArray := prog_11_method_13_code
def yX9_listMoment : MethodName := ⟨RX9, "listMoment", "()I"⟩
abbrev cX9_list : ByteArray := prog_11_method_14_code
def yX9_list : MethodName := ⟨RX9, "list", "()I"⟩
abbrev cX9_size : ByteArray := prog_11_method_15_code
def yX9_size : MethodName := ⟨RX9, "size", "(I)I"⟩
abbrev cX9_openTanks : ByteArray := prog_11_method_16_code
def yX9_openTanks : MethodName := ⟨RX9, "openTanks", "()I"⟩
abbrev cX9_outermost : ByteArray := prog_11_method_17_code
def yX9_outermost : MethodName := ⟨RX9, "outermost", "(Z)I"⟩
abbrev cX9_canFill : ByteArray := prog_11_method_18_code
def yX9_canFill : MethodName := ⟨RX9, "canFill", "()Z"⟩
abbrev cX9_canEmpty : ByteArray := prog_11_method_19_code
def yX9_canEmpty : MethodName := ⟨RX9, "canEmpty", "()Z"⟩
abbrev cX9_canLevel : ByteArray := prog_11_method_20_code
def yX9_canLevel : MethodName := ⟨RX9, "canLevel", "()Z"⟩
abbrev cX9_move : ByteArray := prog_11_method_21_code
def yX9_move : MethodName := ⟨RX9, "move", "(II)V"⟩
abbrev cX9_pump : ByteArray := prog_11_method_22_code
def yX9_pump : MethodName := ⟨RX9, "pump", "(I)V"⟩
abbrev cX9_minute : ByteArray := prog_11_method_23_code
def yX9_minute : MethodName := ⟨RX9, "minute", "(I)V"⟩
abbrev cX9_load : ByteArray := prog_11_method_24_code
def yX9_load : MethodName := ⟨RX9, "load", "(III)I"⟩
abbrev cX9_leak : ByteArray := prog_11_method_25_code
def yX9_leak : MethodName := ⟨RX9, "leak", "(II)I"⟩
abbrev cX9_setGroup : ByteArray := prog_11_method_26_code
def yX9_setGroup : MethodName := ⟨RX9, "setGroup", "(II)I"⟩
abbrev cX9_set : ByteArray := prog_11_method_27_code
def yX9_set : MethodName := ⟨RX9, "set", "(II)I"⟩
abbrev cX9_waits : ByteArray := prog_11_method_28_code
def yX9_waits : MethodName := ⟨RX9, "waits", "(II)I"⟩
abbrev cX9_order : ByteArray := prog_11_method_29_code
def yX9_order : MethodName := ⟨RX9, "order", "(II)I"⟩
abbrev cX9_strikeAt : ByteArray := prog_11_method_30_code
def yX9_strikeAt : MethodName := ⟨RX9, "strikeAt", "(I)V"⟩
abbrev cX9_ofKind : ByteArray := prog_11_method_31_code
def yX9_ofKind : MethodName := ⟨RX9, "ofKind", "(I)I"⟩
abbrev cX9_strike : ByteArray := prog_11_method_32_code
def yX9_strike : MethodName := ⟨RX9, "strike", "(I)I"⟩
abbrev cX9_reason : ByteArray := prog_11_method_33_code
def yX9_reason : MethodName := ⟨RX9, "reason", "(II)I"⟩
abbrev cX9_workOne : ByteArray := prog_11_method_34_code
def yX9_workOne : MethodName := ⟨RX9, "workOne", "()Z"⟩
abbrev cX9_work : ByteArray := prog_11_method_35_code
def yX9_work : MethodName := ⟨RX9, "work", "(I)I"⟩
abbrev cX9_pass : ByteArray := prog_11_method_36_code
def yX9_pass : MethodName := ⟨RX9, "pass", "(I)I"⟩
abbrev cX9_place : ByteArray := prog_11_method_37_code
def yX9_place : MethodName := ⟨RX9, "place", "(III)I"⟩
abbrev cX9_sound : ByteArray := prog_11_method_38_code
def yX9_sound : MethodName := ⟨RX9, "sound", "(I)I"⟩
abbrev cX9_type : ByteArray := prog_11_method_39_code
def yX9_type : MethodName := ⟨RX9, "type", "(C)I"⟩
abbrev cX9_clearText : ByteArray := prog_11_method_40_code
def yX9_clearText : MethodName := ⟨RX9, "clearText", "()I"⟩
abbrev cX9_sign : ByteArray := prog_11_method_41_code
def yX9_sign : MethodName := ⟨RX9, "sign", "(II)I"⟩
abbrev cX9_read : ByteArray := prog_11_method_42_code
def yX9_read : MethodName := ⟨RX9, "read", "()V"⟩
abbrev cX9_go : ByteArray := prog_11_method_43_code
def yX9_go : MethodName := ⟨RX9, "go", "(Z)I"⟩
abbrev cX9_orderAll : ByteArray := prog_11_method_44_code
def yX9_orderAll : MethodName := ⟨RX9, "orderAll", "()I"⟩
abbrev cX9_undo : ByteArray := prog_11_method_45_code
def yX9_undo : MethodName := ⟨RX9, "undo", "()I"⟩
abbrev cX9_keep : ByteArray := prog_11_method_46_code
def yX9_keep : MethodName := ⟨RX9, "keep", "()I"⟩
abbrev cX9_restore : ByteArray := prog_11_method_47_code
def yX9_restore : MethodName := ⟨RX9, "restore", "()I"⟩
abbrev cX9_groupsOf : ByteArray := prog_11_method_48_code
def yX9_groupsOf : MethodName := ⟨RX9, "groupsOf", "(I)I"⟩
abbrev cX9_toldLoss : ByteArray := prog_11_method_49_code
def yX9_toldLoss : MethodName := ⟨RX9, "toldLoss", "(I)I"⟩
abbrev cX9_tank : ByteArray := prog_11_method_50_code
def yX9_tank : MethodName := ⟨RX9, "tank", "(II)I"⟩
abbrev cX9_sounding : ByteArray := prog_11_method_51_code
def yX9_sounding : MethodName := ⟨RX9, "sounding", "(IIZ)I"⟩
abbrev cX9_hold : ByteArray := prog_11_method_52_code
def yX9_hold : MethodName := ⟨RX9, "hold", "(II)I"⟩
abbrev cX9_waterOf : ByteArray := prog_11_method_53_code
def yX9_waterOf : MethodName := ⟨RX9, "waterOf", "(I)I"⟩
abbrev cX9_group : ByteArray := prog_11_method_54_code
def yX9_group : MethodName := ⟨RX9, "group", "(II)I"⟩
abbrev cX9_waiting : ByteArray := prog_11_method_55_code
def yX9_waiting : MethodName := ⟨RX9, "waiting", "(II)I"⟩
abbrev cX9_trimMoment : ByteArray := prog_11_method_56_code
def yX9_trimMoment : MethodName := ⟨RX9, "trimMoment", "(I)I"⟩
abbrev cX9_upright : ByteArray := prog_11_method_57_code
def yX9_upright : MethodName := ⟨RX9, "upright", "(II)I"⟩
abbrev cX9_count : ByteArray := prog_11_method_58_code
def yX9_count : MethodName := ⟨RX9, "count", "(I)I"⟩
def RJ9 : String := "java/lang/Math"
def TJ9 : u_T := fun k => match k with
  | _ => ("", "", "", false)
def tyJ9 : Nat → FieldType := fun k => match k with
  | _ => .int
abbrev wsJ90 : List Cond := u_ws RJ9 TJ9 0
theorem nmJ9 : ∀ a, a < 0 → ∀ b, b < 0 → a ≠ b → (TJ9 a).2.1 ≠ (TJ9 b).2.1 := by decide +kernel
theorem tyJ9_ok : ∀ k, k < 0 → parseFieldDescriptor (TJ9 k).2.2.1 = some (tyJ9 k) := by decide +kernel
abbrev cJ9_abs_0f7a4 : ByteArray := prog_12_method_59_code
def yJ9_abs_0f7a4 : MethodName := ⟨RJ9, "abs", "(I)I"⟩
abbrev cJ9_min_7cf53 : ByteArray := prog_12_method_69_code
def yJ9_min_7cf53 : MethodName := ⟨RJ9, "min", "(II)I"⟩
def RJ10 : String := "java/lang/System"
def TJ10 : u_T := fun k => match k with
  | _ => ("", "", "", false)
def tyJ10 : Nat → FieldType := fun k => match k with
  | _ => .int
abbrev wsJ100 : List Cond := u_ws RJ10 TJ10 0
theorem nmJ10 : ∀ a, a < 0 → ∀ b, b < 0 → a ≠ b → (TJ10 a).2.1 ≠ (TJ10 b).2.1 := by decide +kernel
theorem tyJ10_ok : ∀ k, k < 0 → parseFieldDescriptor (TJ10 k).2.2.1 = some (tyJ10 k) := by decide +kernel
def RL : String := "BargeBallastLaw"
abbrev cL_law : ByteArray := code
def yL_law : MethodName := ⟨RL, "law", "([I)Z"⟩
abbrev vwCl : List vw_C := [(RX0, TX0, 3), (RX3, TX3, 6), (RX6, TX6, 1), (RX7, TX7, 3), (RX8, TX8, 5), (RX9, TX9, 11)]
end
section
/-! ===== the small machine: a state is (pc, locals, stack, heap, cells made, slots made); objects are named by their place in the heap, what stands outside by 1000 + k ===== -/
abbrev Ins : Type := Instr × Nat × Nat × Int32 × Nat × Nat
def nopI : Ins := (.nop, 0, 0, 0, 0, 0)
/-- a method: its name, bytes, locals, what it returns, (frames, locals, cells, slots) that it needs, its length, its instructions -/
abbrev MI : Type := MethodName × ByteArray × Nat × Option FieldType × (Nat × Nat × Nat × Nat) × Nat × (Nat → Ins)
def my (M : MI) : MethodName := M.1
def mb (M : MI) : ByteArray := M.2.1
def mL (M : MI) : Nat := M.2.2.1
def mr (M : MI) : Option FieldType := M.2.2.2.1
def mF (M : MI) : Nat := M.2.2.2.2.1.1
def mW (M : MI) : Nat := M.2.2.2.2.1.2.1
def mC (M : MI) : Nat := M.2.2.2.2.1.2.2.1
def mS (M : MI) : Nat := M.2.2.2.2.1.2.2.2
def mN (M : MI) : Nat := M.2.2.2.2.2.1
def mk (M : MI) : Nat → Ins := M.2.2.2.2.2.2
def mo (M : MI) : String := (my M).cls
abbrev AO : Type := (FieldType × Nat × (Nat → Int32)) ⊕ (Nat × (Nat → Nat)) ⊕ (Nat × List Value)
abbrev AH : Type := List AO
abbrev AL : Type := List (Nat × Value)
abbrev AS : Type := Nat × AL × List Value × AH × Nat × Nat
abbrev AX : Type := Nat → Option (Nat × (Nat → Int32))
def nth {α : Type} : List α → Nat → Option α
  | [], _ => none
  | x :: _, 0 => some x
  | _ :: t, n + 1 => nth t n
def setN {α : Type} : List α → Nat → α → List α
  | [], _, _ => []
  | _ :: t, 0, v => v :: t
  | x :: t, n + 1, v => x :: setN t n v
theorem nth_eq {α : Type} : ∀ (l : List α) (n : Nat), nth l n = l[n]?
  | [], n => by simp [nth]
  | x :: t, 0 => by simp [nth]
  | x :: t, n + 1 => by simp [nth, nth_eq t n]
theorem setN_eq {α : Type} : ∀ (l : List α) (n : Nat) (v : α), setN l n v = l.set n v
  | [], n, v => by simp [setN]
  | x :: t, 0, v => by simp [setN]
  | x :: t, n + 1, v => by simp [setN, setN_eq t n v]
def getL : AL → Nat → Option Value
  | [], _ => none
  | (j, w) :: t, i => cond (Nat.beq j i) (some w) (getL t i)
def setL : AL → Nat → Value → AL
  | [], i, v => [(i, v)]
  | (j, w) :: t, i, v => cond (Nat.beq j i) ((j, v) :: t) ((j, w) :: setL t i v)
/-- the tables' words that stay true behind a call; those of a nest, which are carried beside them -/
def gw : List Cond := lw_tbl.filter goodWord
def nw : List Cond := [.fieldLinkNest "BargeBallast$State" 15 "BargeBallast" "FIRST_TANKS" "[I" "BargeBallast", .fieldLinkNest "BargeBallast$State" 18 "BargeBallast" "FIRST_SETTING" "[I" "BargeBallast", .fieldLinkNest "BargeBallast$State" 45 "BargeBallast" "SIDE_ARM" "[I" "BargeBallast", .fieldLinkNest "BargeBallast$State" 35 "BargeBallast" "SECTION_ARM" "[I" "BargeBallast", .fieldLinkNest "BargeBallast$State" 38 "BargeBallast" "HOLD_ARM" "[I" "BargeBallast", .fieldLinkNest "BargeBallast$Uprighting" 32 "BargeBallast" "SIDE_ARM" "[I" "BargeBallast", .methodLinkNest "BargeBallast" 18 yX0_init "BargeBallast", .methodLinkNest "BargeBallast" 29 yX3_init "BargeBallast", .methodLinkNest "BargeBallast$OrderText" 53 yX8_isValve "BargeBallast", .methodLinkNest "BargeBallast$OrderRow" 36 yX8_isValve "BargeBallast"]
def okw (w : Cond) : Bool := decide (w ∈ lw_tbl) && goodWord w
theorem okw_in {w : Cond} (h : okw w = true) : w ∈ gw := by
  unfold okw at h
  simp only [Bool.and_eq_true, decide_eq_true_eq] at h
  exact List.mem_filter.mpr ⟨h.1, h.2⟩
theorem okw_all {ws : List Cond} (h : ws.all okw = true) : ∀ w ∈ ws, w ∈ gw := fun w hw => okw_in (List.all_eq_true.mp h w hw)
theorem gw_good : GoodIn gw gw := fun w h => ⟨h, good_of_word (List.mem_filter.mp h).2⟩
/-- the names of the static arrays that stand outside -/
def stN (k : Nat) : String := match k with
  | 0 => "SECTION_ARM"
  | 1 => "SIDE_ARM"
  | 2 => "HOLD_ARM"
  | 3 => "FIRST_TANKS"
  | 4 => "LEAST_SETTING"
  | 5 => "FIRST_SETTING"
  | _ => "MOST_SETTING"
def fty (ci : Nat) : Nat → FieldType := match ci with
  | 0 => tyX0
  | 1 => tyX3
  | 2 => tyX6
  | 3 => tyX7
  | 4 => tyX8
  | _ => tyX9
def okF (own : String) (idx ci k : Nat) : Bool := match vwCl[ci]? with
  | some (C, T, N) => decide (k < N) && decide ((T k).1 = C) && okw (Cond.fieldLink own idx C (T k).2.1 (T k).2.2.1)
  | none => false
def okS (own : String) (idx k : Nat) : Bool := decide (k < 7) && (okw (Cond.fieldLink own idx "BargeBallast" (stN k) "[I") || decide (Cond.fieldLinkNest own idx "BargeBallast" (stN k) "[I" "BargeBallast" ∈ nw))
def okN (own : String) (idx ci : Nat) : Bool := match vwCl[ci]? with
  | some (C, _, N) => okw (Cond.classLink own idx C) && okw (Cond.instantiable C N) && okw (Cond.initialized C)
  | none => false
/-- how long the instructions are -/
def ilen (i : Instr) : Nat := match i with
  | .iconst _ => 1
  | .iload_n _ => 1
  | .aload_n _ => 1
  | .istore_n _ => 1
  | .astore_n _ => 1
  | .iadd => 1
  | .isub => 1
  | .imul => 1
  | .iand => 1
  | .ior => 1
  | .ishl => 1
  | .ishr => 1
  | .idiv => 1
  | .irem => 1
  | .ineg => 1
  | .i2c => 1
  | .dup => 1
  | .dup2 => 1
  | .arraylength => 1
  | .iaload => 1
  | .caload => 1
  | .aaload => 1
  | .iastore => 1
  | .castore => 1
  | .ireturn => 1
  | .return_ => 1
  | .bipush _ => 2
  | .iload _ => 2
  | .aload _ => 2
  | .istore _ => 2
  | .newarray _ => 2
  | .sipush _ => 3
  | .iinc _ _ => 3
  | .goto _ => 3
  | .if_icmp _ _ => 3
  | .ifCond _ _ => 3
  | .ifnull _ => 3
  | .ifnonnull _ => 3
  | .getfield _ => 3
  | .putfield _ => 3
  | .getstatic _ => 3
  | .new _ => 3
  | .invokevirtual _ => 3
  | .invokestatic _ => 3
  | .invokespecial _ => 3
  | _ => 0
/-- what an instruction's row of the table must say -/
def okI (own : String) (pc : Nat) (q : Ins) : Bool := decide (q.2.2.1 = pc + q.2.1) && ((decide (ilen q.1 = q.2.1) || decide (ilen q.1 = 0)) && match q.1 with
  | .iconst n => decide (q.2.2.2.1 = Int32.ofInt n)
  | .bipush n => decide (q.2.2.2.1 = (Int8.ofInt n).toInt32)
  | .sipush n => decide (q.2.2.2.1 = (Int16.ofInt n).toInt32)
  | .iinc k n => decide (q.2.2.2.1 = Int32.ofInt n) && decide (k = q.2.2.2.2.1)
  | .iload k => decide (k = q.2.2.2.2.1)
  | .aload k => decide (k = q.2.2.2.2.1)
  | .istore k => decide (k = q.2.2.2.2.1)
  | .iload_n k => decide (k.val = q.2.2.2.2.1)
  | .aload_n k => decide (k.val = q.2.2.2.2.1)
  | .istore_n k => decide (k.val = q.2.2.2.2.1)
  | .astore_n k => decide (k.val = q.2.2.2.2.1)
  | .goto off => decide ((pc : Int) + off = (q.2.2.2.2.1 : Int))
  | .if_icmp _ off => decide ((pc : Int) + off = (q.2.2.2.2.1 : Int))
  | .ifCond _ off => decide ((pc : Int) + off = (q.2.2.2.2.1 : Int))
  | .ifnull off => decide ((pc : Int) + off = (q.2.2.2.2.1 : Int))
  | .ifnonnull off => decide ((pc : Int) + off = (q.2.2.2.2.1 : Int))
  | .getfield idx => okF own idx q.2.2.2.2.1 q.2.2.2.2.2
  | .putfield idx => okF own idx q.2.2.2.2.1 q.2.2.2.2.2
  | .getstatic idx => okS own idx q.2.2.2.2.1
  | .new idx => okN own idx q.2.2.2.2.1
  | _ => true)
def MOk (M : MI) : Prop := (∀ pc, pc < mN M → mk M pc = nopI ∨ (decode (mb M) pc = .ok ((mk M pc).1, (mk M pc).2.1) ∧ okI (mo M) pc (mk M pc) = true)) ∧ ∀ pc, mN M ≤ pc → mk M pc = nopI
def inB (i : Int32) (n : Nat) : Bool := !(decide (i < 0)) && Nat.ble (i.toNatClampNeg + 1) n
theorem inB_vp {i : Int32} {n : Nat} (h : inB i n = true) : vp_in i n := by
  unfold inB at h
  simp only [Bool.and_eq_true, Bool.not_eq_true', decide_eq_false_iff_not] at h
  have := Nat.le_of_ble_eq_true h.2
  intro q
  rcases q with q | q
  · exact h.1 q
  · omega
def cmpB (c : Jvm.ClassFile.Cond) (x y : Int32) : Bool := match c with
  | .eq => decide (x = y)
  | .ne => !decide (x = y)
  | .lt => decide (x < y)
  | .ge => decide (y ≤ x)
  | .gt => decide (y < x)
  | .le => decide (x ≤ y)
/-- what may be laid into a field of this type -/
def putOk (ty : FieldType) (v : Value) : Bool := match ty, v with
  | .int, .int _ => true
  | .boolean, .int x => decide (x = 0) || decide (x = 1)
  | .object _, .ref _ => true
  | .array _, .ref _ => true
  | _, _ => false
def finOk (M : MI) (ci k : Nat) : Bool := match nth vwCl ci with
  | some (_, T, _) => !(T k).2.2.2 || (decide ((my M).name = "<init>") && decide ((T k).1 = mo M))
  | none => false
/-- one step of an instruction that calls nothing and makes nothing -/
def step1 (M : MI) (X : AX) (σ : AS) : Option AS := match σ with
  | (pc, ls, st, h, cc, cs) => match mk M pc with
    | (i, _, nx, v, a, b) => match i with
      | .iconst _ => some (nx, ls, .int v :: st, h, cc, cs)
      | .bipush _ => some (nx, ls, .int v :: st, h, cc, cs)
      | .sipush _ => some (nx, ls, .int v :: st, h, cc, cs)
      | .iload _ => match getL ls a with
        | some (.int x) => some (nx, ls, .int x :: st, h, cc, cs)
        | _ => none
      | .iload_n _ => match getL ls a with
        | some (.int x) => some (nx, ls, .int x :: st, h, cc, cs)
        | _ => none
      | .aload _ => match getL ls a with
        | some (.ref x) => some (nx, ls, .ref x :: st, h, cc, cs)
        | _ => none
      | .aload_n _ => match getL ls a with
        | some (.ref x) => some (nx, ls, .ref x :: st, h, cc, cs)
        | _ => none
      | .istore _ => match st with
        | .int x :: r => cond (Nat.ble (a + 1) (mL M)) (some (nx, setL ls a (.int x), r, h, cc, cs)) none
        | _ => none
      | .istore_n _ => match st with
        | .int x :: r => cond (Nat.ble (a + 1) (mL M)) (some (nx, setL ls a (.int x), r, h, cc, cs)) none
        | _ => none
      | .astore_n _ => match st with
        | .ref x :: r => cond (Nat.ble (a + 1) (mL M)) (some (nx, setL ls a (.ref x), r, h, cc, cs)) none
        | _ => none
      | .iinc _ _ => match getL ls a with
        | some (.int x) => cond (Nat.ble (a + 1) (mL M)) (some (nx, setL ls a (.int (x + v)), st, h, cc, cs)) none
        | _ => none
      | .iadd => match st with
        | .int y :: .int x :: r => some (nx, ls, .int (x + y) :: r, h, cc, cs)
        | _ => none
      | .isub => match st with
        | .int y :: .int x :: r => some (nx, ls, .int (x - y) :: r, h, cc, cs)
        | _ => none
      | .imul => match st with
        | .int y :: .int x :: r => some (nx, ls, .int (x * y) :: r, h, cc, cs)
        | _ => none
      | .iand => match st with
        | .int y :: .int x :: r => some (nx, ls, .int (x &&& y) :: r, h, cc, cs)
        | _ => none
      | .ior => match st with
        | .int y :: .int x :: r => some (nx, ls, .int (x ||| y) :: r, h, cc, cs)
        | _ => none
      | .ishl => match st with
        | .int y :: .int x :: r => some (nx, ls, .int (x <<< (y &&& 31)) :: r, h, cc, cs)
        | _ => none
      | .ishr => match st with
        | .int y :: .int x :: r => some (nx, ls, .int (x >>> (y &&& 31)) :: r, h, cc, cs)
        | _ => none
      | .idiv => match st with
        | .int y :: .int x :: r => cond (decide (y = 0)) none (some (nx, ls, .int (x / y) :: r, h, cc, cs))
        | _ => none
      | .irem => match st with
        | .int y :: .int x :: r => cond (decide (y = 0)) none (some (nx, ls, .int (x - x / y * y) :: r, h, cc, cs))
        | _ => none
      | .ineg => match st with
        | .int x :: r => some (nx, ls, .int (-x) :: r, h, cc, cs)
        | _ => none
      | .i2c => match st with
        | .int x :: r => some (nx, ls, .int ((x.toUInt32 % 65536).toInt32) :: r, h, cc, cs)
        | _ => none
      | .dup => match st with
        | .int x :: r => some (nx, ls, .int x :: .int x :: r, h, cc, cs)
        | .ref x :: r => some (nx, ls, .ref x :: .ref x :: r, h, cc, cs)
        | _ => none
      | .dup2 => match st with
        | .int x :: .ref y :: r => some (nx, ls, .int x :: .ref y :: .int x :: .ref y :: r, h, cc, cs)
        | _ => none
      | .goto _ => some (a, ls, st, h, cc, cs)
      | .if_icmp c _ => match st with
        | .int y :: .int x :: r => cond (cmpB c x y) (some (a, ls, r, h, cc, cs)) (some (nx, ls, r, h, cc, cs))
        | _ => none
      | .ifCond c _ => match st with
        | .int x :: r => cond (cmpB c x 0) (some (a, ls, r, h, cc, cs)) (some (nx, ls, r, h, cc, cs))
        | _ => none
      | .ifnull _ => match st with
        | .ref _ :: r => some (nx, ls, r, h, cc, cs)
        | _ => none
      | .ifnonnull _ => match st with
        | .ref _ :: r => some (a, ls, r, h, cc, cs)
        | _ => none
      | .getfield _ => match st with
        | .ref o :: r => match nth h o with
          | some (.inr (.inr (ci, fs))) => cond (Nat.beq ci a) (match nth fs b with
            | some w => some (nx, ls, w :: r, h, cc, cs)
            | none => none) none
          | _ => none
        | _ => none
      | .putfield _ => match st with
        | w :: .ref o :: r => match nth h o with
          | some (.inr (.inr (ci, fs))) => cond (Nat.beq ci a && (putOk (fty a b) w && (finOk M a b && Nat.ble (b + 1) fs.length))) (some (nx, ls, r, setN h o (.inr (.inr (ci, setN fs b w))), cc, cs)) none
          | _ => none
        | _ => none
      | .getstatic _ => some (nx, ls, .ref (1000 + a) :: st, h, cc, cs)
      | .arraylength => match st with
        | .ref o :: r => cond (Nat.ble 1000 o) (match X (o - 1000) with
          | some (n, _) => some (nx, ls, .int (Int32.ofNat n) :: r, h, cc, cs)
          | none => none) (match nth h o with
          | some (.inl (_, n, _)) => some (nx, ls, .int (Int32.ofNat n) :: r, h, cc, cs)
          | _ => none)
        | _ => none
      | .iaload => match st with
        | .int j :: .ref o :: r => cond (Nat.ble 1000 o) (match X (o - 1000) with
          | some (n, f) => cond (inB j n) (some (nx, ls, .int (f j.toNatClampNeg) :: r, h, cc, cs)) none
          | none => none) (match nth h o with
          | some (.inl (.int, n, f)) => cond (inB j n) (some (nx, ls, .int (f j.toNatClampNeg) :: r, h, cc, cs)) none
          | _ => none)
        | _ => none
      | .caload => match st with
        | .int j :: .ref o :: r => match nth h o with
          | some (.inl (.char, n, f)) => cond (inB j n) (some (nx, ls, .int (f j.toNatClampNeg) :: r, h, cc, cs)) none
          | _ => none
        | _ => none
      | .aaload => match st with
        | .int j :: .ref o :: r => match nth h o with
          | some (.inr (.inl (n, g))) => cond (inB j n && Nat.ble (g j.toNatClampNeg + 1) 1000) (some (nx, ls, .ref (g j.toNatClampNeg) :: r, h, cc, cs)) none
          | _ => none
        | _ => none
      | .iastore => match st with
        | .int x :: .int j :: .ref o :: r => match nth h o with
          | some (.inl (.int, n, f)) => cond (inB j n) (some (nx, ls, r, setN h o (.inl (.int, n, upd f j.toNatClampNeg x)), cc, cs)) none
          | _ => none
        | _ => none
      | .castore => match st with
        | .int x :: .int j :: .ref o :: r => match nth h o with
          | some (.inl (.char, n, f)) => cond (inB j n) (some (nx, ls, r, setN h o (.inl (.char, n, upd f j.toNatClampNeg (vp_nar .char x))), cc, cs)) none
          | _ => none
        | _ => none
      | _ => none
def stepN (M : MI) (X : AX) : Nat → AS → Option AS
  | 0, σ => some σ
  | n + 1, σ => match step1 M X σ with
    | some τ => stepN M X n τ
    | none => none
end
section
/-! ===== what the small machine's states mean, and that its steps are the machine's ===== -/
def cv (am xa : Nat → Nat) (v : Value) : Value := match v with
  | .ref k => .ref (if k < 1000 then am k else xa (k - 1000))
  | w => w
def aT (s : State) (cA : ClassId) (ty : FieldType) : Prop := ArrOfT s cA ty ∧ va_RA s cA ty
def co (s : State) (am xa : Nat → Nat) (o : AO) (e : va_E) : Prop := match o with
  | .inl (ty, n, f) => ∃ cA : ClassId, e = .inl (cA, n, .inl f) ∧ aT s cA ty
  | .inr (.inl (n, g)) => ∃ cA : ClassId, e = .inl (cA, n, .inr (.inr (.inr (.inr (fun i => if i < n then some (am (g i)) else none))))) ∧ aT s cA (.array .int)
  | .inr (.inr (ci, fs)) => e = .inr (ci, fs.map (cv am xa))
def HOk (D : va_G) (s : State) (A : Nat → Prop) (am xa : Nat → Nat) (h : AH) (H : Heap) (ws : va_W) : Prop :=
  va_P D vwCl ws H ∧ va_D A ws ∧ ws.length = h.length ∧ h.length ≤ 1000 ∧ ∀ (k : Nat) (o : AO), h[k]? = some o → ∃ e, ws[k]? = some (am k, e) ∧ co s am xa o e
def gL (ls : AL) : Prop := (ls.map Prod.fst).Nodup ∧ ∀ q ∈ ls, q.2.category = 1
def lc (am xa : Nat → Nat) (ls : AL) : AL := ls.map fun q => (q.1, cv am xa q.2)
def CxOk (M : MI) (X : AX) (p : Program) (R : Room) (s : State) (m : MethodId) (args : Array Value) (meth : Method) (c : Code) (D : va_G) (xa : Nat → Nat) (A : Nat → Prop) : Prop :=
  p.tables.exec = Jvm.exec ∧ c.code = mb M ∧ c.maxLocals = mL M ∧ (∀ w ∈ gw, w.before args s = true) ∧ (∀ w ∈ nw, va_Nw w s) ∧ (Cond.arrayOver (.array .int)).before #[] s = true ∧ s.vm.findClass (mo M) = some m.cls ∧ ((my M).name = "<init>" → meth.name = "<init>") ∧ (∀ q, s.heap.size ≤ q → A q) ∧ va_K D vwCl [] s ∧
  (∀ k, k < 7 → va_Z "BargeBallast" (stN k) "[I" (.ref (xa k)) A s s.heap) ∧ (∀ k n f, X k = some (n, f) → va_T .int (xa k) n (fun j => .int (f j)) A s s.heap) ∧ mF M ≤ R.frames ∧ mW M ≤ R.locals ∧ mC M ≤ R.cells ∧ mS M ≤ R.slots ∧ meth.locks = false
def Sat (M : MI) (p : Program) (l : Launch) (e : Env) (R : Room) (s : State) (m : MethodId) (args : Array Value) (below : List Frame) (meth : Method) (c : Code) (D : va_G) (xa : Nat → Nat) (A : Nat → Prop) (am0 : Nat → Nat) (n0 : Nat) (Q : State → Prop) (σ : AS) : Prop :=
  ∀ (am : Nat → Nat) (H : Heap) (locs : List Loc) (ws : va_W) (lsC : Array Slot), n0 ≤ σ.2.2.2.1.length → (∀ k, (k < n0 ∨ σ.2.2.2.1.length ≤ k) → am k = am0 k) → HOk D s A am xa σ.2.2.2.1 H ws → va_S A s.heap H locs → lv_has lsC (mL M) (lc am xa σ.2.1) → gL σ.2.1 →
    W p l e R s m args below meth c H locs σ.2.2.2.2.1 σ.2.2.2.2.2 Q (F0 m σ.1 lsC (σ.2.2.1.map (cv am xa)))
/-- from σ the method comes to a state that is Ψ -/
def Rch (M : MI) (X : AX) (σ : AS) (Ψ : AS → Prop) : Prop := MOk M → ∀ (p : Program) (l : Launch) (e : Env) (R : Room) (s : State) (m : MethodId) (args : Array Value) (below : List Frame) (meth : Method) (c : Code) (D : va_G) (xa : Nat → Nat) (A : Nat → Prop) (am0 : Nat → Nat) (n0 : Nat) (Q : State → Prop),
  CxOk M X p R s m args meth c D xa A → (∀ τ, Ψ τ → Sat M p l e R s m args below meth c D xa A am0 n0 Q τ) → Sat M p l e R s m args below meth c D xa A am0 n0 Q σ
theorem Rch.rf {M : MI} {X : AX} {σ : AS} {Ψ : AS → Prop} (h : Ψ σ) : Rch M X σ Ψ := fun _ _ _ _ _ _ _ _ _ _ _ _ _ _ _ _ _ _ k => k σ h
theorem Rch.tr {M : MI} {X : AX} {σ : AS} {Ψ Φ : AS → Prop} (h : Rch M X σ Ψ) (k : ∀ τ, Ψ τ → Rch M X τ Φ) : Rch M X σ Φ :=
  fun ok p l e R s m args below meth c D xa A am0 n0 Q cx f => h ok p l e R s m args below meth c D xa A am0 n0 Q cx (fun τ hτ => k τ hτ ok p l e R s m args below meth c D xa A am0 n0 Q cx f)
theorem Rch.mono {M : MI} {X : AX} {σ : AS} {Ψ Φ : AS → Prop} (h : Rch M X σ Ψ) (k : ∀ τ, Ψ τ → Φ τ) : Rch M X σ Φ := h.tr fun τ hτ => Rch.rf (k τ hτ)
theorem getL_mem {ls : AL} {i : Nat} {v : Value} (h : getL ls i = some v) : (i, v) ∈ ls := by
  induction ls with
  | nil => cases h
  | cons q t ih =>
    obtain ⟨j, w⟩ := q
    unfold getL at h
    cases hb : Nat.beq j i with
    | true =>
      rw [hb] at h
      have e : j = i := Nat.eq_of_beq_eq_true hb
      cases h
      subst e
      exact List.mem_cons_self
    | false =>
      rw [hb] at h
      exact List.mem_cons_of_mem _ (ih h)
theorem lc_get {am xa : Nat → Nat} {ls : AL} {i : Nat} {v : Value} {lsC : Array Slot} {n : Nat} (h : lv_has lsC n (lc am xa ls)) (g : getL ls i = some v) : lsC[i]? = some (.val (cv am xa v)) :=
  h.2.2 (i, cv am xa v) (List.mem_map.mpr ⟨(i, v), getL_mem g, rfl⟩)
theorem setL_mem {ls : AL} {i : Nat} {v : Value} {q : Nat × Value} (hn : (ls.map Prod.fst).Nodup) (h : q ∈ setL ls i v) : q = (i, v) ∨ (q ∈ ls ∧ q.1 ≠ i) := by
  induction ls with
  | nil => left; simpa [setL] using h
  | cons x t ih =>
    obtain ⟨j, w⟩ := x
    simp only [List.map_cons, List.nodup_cons] at hn
    unfold setL at h
    cases hb : Nat.beq j i with
    | true =>
      rw [hb] at h
      have e : j = i := Nat.eq_of_beq_eq_true hb
      subst e
      rcases List.mem_cons.mp h with h | h
      · exact Or.inl h
      · refine Or.inr ⟨List.mem_cons_of_mem _ h, fun e2 => hn.1 ?_⟩
        rw [← e2]
        exact List.mem_map.mpr ⟨q, h, rfl⟩
    | false =>
      rw [hb] at h
      have ne : ¬ j = i := fun e => by rw [e, Nat.beq_refl] at hb; cases hb
      rcases List.mem_cons.mp h with h | h
      · subst h
        exact Or.inr ⟨List.mem_cons_self, ne⟩
      · rcases ih hn.2 h with h | ⟨h, h2⟩
        · exact Or.inl h
        · exact Or.inr ⟨List.mem_cons_of_mem _ h, h2⟩
theorem setL_fst {ls : AL} {i : Nat} {v : Value} : (setL ls i v).map Prod.fst = if i ∈ ls.map Prod.fst then ls.map Prod.fst else ls.map Prod.fst ++ [i] := by
  induction ls with
  | nil => simp [setL]
  | cons x t ih =>
    obtain ⟨j, w⟩ := x
    unfold setL
    cases hb : Nat.beq j i with
    | true =>
      have e : j = i := Nat.eq_of_beq_eq_true hb
      subst e
      simp
    | false =>
      have ne : ¬ i = j := fun e => by rw [e, Nat.beq_refl] at hb; cases hb
      simp only [cond_false, List.map_cons, ih, List.mem_cons, ne, false_or]
      split <;> simp
theorem gL_set {ls : AL} {i : Nat} {v : Value} (h : gL ls) (hv : v.category = 1) : gL (setL ls i v) := by
  refine ⟨?_, fun q hq => ?_⟩
  · rw [setL_fst]
    split
    · exact h.1
    · next hn =>
      rw [List.nodup_append]
      exact ⟨h.1, by simp, fun a ha b hb => by rw [List.mem_singleton.mp hb]; exact fun e => hn (e ▸ ha)⟩
  · rcases setL_mem h.1 hq with e | ⟨e, -⟩
    · rw [e]; exact hv
    · exact h.2 q e
theorem cv_cat (am xa : Nat → Nat) (v : Value) : (cv am xa v).category = v.category := by cases v <;> rfl
theorem lc_set {am xa : Nat → Nat} {ls : AL} {i n : Nat} {v : Value} {lsC : Array Slot} (hg : gL ls) (h : lv_has lsC n ((i, cv am xa v) :: (lc am xa ls).filter (fun q => !(q.1 == i) && !(q.1 + 1 == i && q.2.category == 2)))) : lv_has lsC n (lc am xa (setL ls i v)) := by
  refine ⟨h.1, h.2.1, fun q hq => h.2.2 q ?_⟩
  obtain ⟨q0, hq0, rfl⟩ := List.mem_map.mp hq
  rcases setL_mem hg.1 hq0 with e | ⟨e, ne⟩
  · rw [e]; exact List.mem_cons_self
  · refine List.mem_cons_of_mem _ (List.mem_filter.mpr ⟨List.mem_map.mpr ⟨q0, e, rfl⟩, ?_⟩)
    have := hg.2 q0 e
    simp [ne, cv_cat, this]
theorem MOk.at {M : MI} (ok : MOk M) {pc : Nat} {q : Ins} (hq : mk M pc = q) (hn : ¬ q = nopI) : decode (mb M) pc = .ok (q.1, q.2.1) ∧ okI (mo M) pc q = true := by
  by_cases hp : pc < mN M
  · rcases ok.1 pc hp with h | h
    · exact absurd (hq.symm.trans h) hn
    · rw [hq] at h; exact h
  · exact absurd (hq.symm.trans (ok.2 pc (by omega))) hn
end
section
/-! ===== a step of the small machine is a step of the machine ===== -/
theorem nth_some {α : Type} {l : List α} {n : Nat} {x : α} (h : nth l n = some x) : l[n]? = some x := (nth_eq l n) ▸ h
theorem cl_in : ∀ ci C T N, vwCl[ci]? = some (C, T, N) → (∀ w ∈ u_ws C T N, w ∈ gw) ∧ (∀ k, k < N → parseFieldDescriptor (T k).2.2.1 = some (fty ci k)) ∧ (∀ a, a < N → ∀ b, b < N → a ≠ b → (T a).2.1 ≠ (T b).2.1) := by
  intro ci C T N h
  match ci, h with
  | 0, h => cases h; exact ⟨okw_all (by decide +kernel), tyX0_ok, nmX0⟩
  | 1, h => cases h; exact ⟨okw_all (by decide +kernel), tyX3_ok, nmX3⟩
  | 2, h => cases h; exact ⟨okw_all (by decide +kernel), tyX6_ok, nmX6⟩
  | 3, h => cases h; exact ⟨okw_all (by decide +kernel), tyX7_ok, nmX7⟩
  | 4, h => cases h; exact ⟨okw_all (by decide +kernel), tyX8_ok, nmX8⟩
  | 5, h => cases h; exact ⟨okw_all (by decide +kernel), tyX9_ok, nmX9⟩
  | n + 6, h => simp [vwCl] at h
theorem okF_some {own : String} {idx ci k : Nat} (h : okF own idx ci k = true) : ∃ C T N, vwCl[ci]? = some (C, T, N) ∧ k < N ∧ (T k).1 = C ∧ Cond.fieldLink own idx C (T k).2.1 (T k).2.2.1 ∈ gw := by
  unfold okF at h
  split at h
  · next C T N hc =>
    simp only [Bool.and_eq_true, decide_eq_true_eq] at h
    exact ⟨C, T, N, hc, h.1.1, h.1.2, okw_in h.2⟩
  · cases h
section STEP
variable {M : MI} {X : AX} {p : Program} {l : Launch} {e : Env} {R : Room} {s : State} {m : MethodId} {args : Array Value} {below : List Frame} {meth : Method} {c : Code} {D : va_G} {xa : Nat → Nat} {A : Nat → Prop} {am0 : Nat → Nat} {n0 : Nat} {Q : State → Prop}
theorem HOk.at {am : Nat → Nat} {h : AH} {H : Heap} {ws : va_W} (hH : HOk D s A am xa h H ws) {k : Nat} {o : AO} (hk : nth h k = some o) : k < 1000 ∧ ∃ e, ws[k]? = some (am k, e) ∧ co s am xa o e := by
  have h1 := nth_some hk
  have h2 := (List.getElem?_eq_some_iff.mp h1).1
  exact ⟨by have := hH.2.2.2.1; omega, hH.2.2.2.2 k o h1⟩
theorem HOk.set {am : Nat → Nat} {h : AH} {H H1 : Heap} {ws : va_W} (hH : HOk D s A am xa h H ws) {k : Nat} {o : AO} {e : va_E} (hP : va_P D vwCl (ws.set k (am k, e)) H1) (hD : va_D A (ws.set k (am k, e))) (he : co s am xa o e) : HOk D s A am xa (setN h k o) H1 (ws.set k (am k, e)) := by
  obtain ⟨-, -, h3, h4, h5⟩ := hH
  rw [setN_eq]
  refine ⟨hP, hD, by simp [h3], by simpa using h4, fun j o' hj => ?_⟩
  rw [List.getElem?_set] at hj ⊢
  by_cases hkj : k = j
  · subst hkj
    rw [if_pos rfl] at hj ⊢
    by_cases hl : k < h.length
    · rw [if_pos hl] at hj
      cases hj
      rw [if_pos (by omega)]
      exact ⟨e, rfl, he⟩
    · rw [if_neg hl] at hj; cases hj
  · rw [if_neg hkj] at hj ⊢
    exact h5 j o' hj
theorem cv_int (am : Nat → Nat) (x : Int32) : cv am xa (.int x) = .int x := rfl
theorem cv_ref (am : Nat → Nat) {k : Nat} (h : k < 1000) : cv am xa (.ref k) = .ref (am k) := by simp [cv, h]
theorem cv_ext (am : Nat → Nat) {k : Nat} (h : 1000 ≤ k) : cv am xa (.ref k) = .ref (xa (k - 1000)) := by simp [cv, Nat.not_lt.mpr h]
theorem nop_ne {i : Instr} {r : Nat × Nat × Int32 × Nat × Nat} (h : i ≠ .nop) : ¬ (i, r) = nopI := fun e => h (congrArg Prod.fst e)
theorem ok_len {own : String} {pc : Nat} {q : Ins} (h : okI own pc q = true) (hz : ilen q.1 ≠ 0) : q.2.2.1 = pc + q.2.1 ∧ q.2.1 = ilen q.1 := by
  unfold okI at h
  simp only [Bool.and_eq_true, Bool.or_eq_true, decide_eq_true_eq] at h
  rcases h.2.1 with g | g
  · exact ⟨h.1, g.symm⟩
  · exact absurd g hz
/-- what the table says of an instruction, by its kind -/
theorem ok_at (ok : MOk M) {pc : Nat} {i : Instr} {len nx a b : Nat} {v : Int32} (hq : mk M pc = (i, len, nx, v, a, b)) (hz : ilen i ≠ 0) : decode (mb M) pc = .ok (i, ilen i) ∧ nx = pc + ilen i ∧ okI (mo M) pc (i, len, nx, v, a, b) = true := by
  obtain ⟨h1, h2⟩ := ok.at hq (nop_ne (fun e => hz (by rw [e]; rfl)))
  obtain ⟨h3, h4⟩ := ok_len h2 hz
  dsimp only at h1 h3 h4
  subst h4
  exact ⟨h1, h3, h2⟩
theorem ok_br (ok : MOk M) {pc : Nat} {i : Instr} {len nx a b : Nat} {v : Int32} (hq : mk M pc = (i, len, nx, v, a, b)) {off : Int} (hi : i = .goto off ∨ (∃ k, i = .if_icmp k off) ∨ (∃ k, i = .ifCond k off) ∨ i = .ifnull off ∨ i = .ifnonnull off) : decode (mb M) pc = .ok (i, 3) ∧ nx = pc + 3 ∧ (pc : Int) + off = (a : Int) := by
  rcases hi with rfl | ⟨k, rfl⟩ | ⟨k, rfl⟩ | rfl | rfl
  all_goals
    obtain ⟨h1, h2, h3⟩ := ok_at ok hq (by simp [ilen])
    simp only [okI, Bool.and_eq_true, decide_eq_true_eq] at h3
    exact ⟨h1, h2, h3.2.2⟩
theorem cmp_if {pc : Nat} {lsC : Array Slot} {rest : List Value} {H : Heap} {locs : List Loc} {cc cs : Nat} {k : Jvm.ClassFile.Cond} {off : Int} {x : Int32} {a : Nat} (hx : p.tables.exec = Jvm.exec) (hb : c.code = mb M) (hd : decode (mb M) pc = .ok (.ifCond k off, 3)) (ht : (pc : Int) + off = (a : Int))
    (kt : cmpB k x 0 = true → W p l e R s m args below meth c H locs cc cs Q (F0 m a lsC rest)) (kf : cmpB k x 0 = false → W p l e R s m args below meth c H locs cc cs Q (F0 m (pc + 3) lsC rest)) : W p l e R s m args below meth c H locs cc cs Q (F0 m pc lsC (.int x :: rest)) := by
  cases k with
  | eq => exact lv_if_eq hx hb hd ht (fun z => kt (by simp [cmpB, z])) (fun z => kf (by simp [cmpB, z]))
  | ne => exact lv_if_ne hx hb hd ht (fun z => kt (by simp [cmpB, z])) (fun z => kf (by simp [cmpB, z]))
  | lt => exact lv_if_lt hx hb hd ht (fun z => kt (by simp [cmpB, z])) (fun z => kf (by simp [cmpB, z]))
  | ge => exact lv_if_ge hx hb hd ht (fun z => kt (by simp only [cmpB, z, decide_true])) (fun z => kf (by simp only [cmpB, z, decide_false]))
  | gt => exact lv_if_gt hx hb hd ht (fun z => kt (by simp [cmpB, z])) (fun z => kf (by simp [cmpB, z]))
  | le => exact lv_if_le hx hb hd ht (fun z => kt (by simp only [cmpB, z, decide_true])) (fun z => kf (by simp only [cmpB, z, decide_false]))
theorem cmp_ic {pc : Nat} {lsC : Array Slot} {rest : List Value} {H : Heap} {locs : List Loc} {cc cs : Nat} {k : Jvm.ClassFile.Cond} {off : Int} {x y : Int32} {a : Nat} (hx : p.tables.exec = Jvm.exec) (hb : c.code = mb M) (hd : decode (mb M) pc = .ok (.if_icmp k off, 3)) (ht : (pc : Int) + off = (a : Int))
    (kt : cmpB k x y = true → W p l e R s m args below meth c H locs cc cs Q (F0 m a lsC rest)) (kf : cmpB k x y = false → W p l e R s m args below meth c H locs cc cs Q (F0 m (pc + 3) lsC rest)) : W p l e R s m args below meth c H locs cc cs Q (F0 m pc lsC (.int y :: .int x :: rest)) := by
  cases k with
  | eq => exact lv_icmp_eq hx hb hd ht (fun z => kt (by simp [cmpB, z])) (fun z => kf (by simp [cmpB, z]))
  | ne => exact lv_icmp_ne hx hb hd ht (fun z => kt (by simp [cmpB, z])) (fun z => kf (by simp [cmpB, z]))
  | lt => exact lv_icmp_lt hx hb hd ht (fun z => kt (by simp [cmpB, z])) (fun z => kf (by simp [cmpB, z]))
  | ge => exact lv_icmp_ge hx hb hd ht (fun z => kt (by simp only [cmpB, z, decide_true])) (fun z => kf (by simp only [cmpB, z, decide_false]))
  | gt => exact lv_icmp_gt hx hb hd ht (fun z => kt (by simp [cmpB, z])) (fun z => kf (by simp [cmpB, z]))
  | le => exact lv_icmp_le hx hb hd ht (fun z => kt (by simp only [cmpB, z, decide_true])) (fun z => kf (by simp only [cmpB, z, decide_false]))
end STEP
end
section
theorem nw_before {a : String} {i : Nat} {b n d h : String} {s : State} (hZ : va_Nw (.fieldLinkNest a i b n d h) s) (args : Array Value) : (Cond.fieldLinkNest a i b n d h).before args s = true := hZ
theorem va_aldA {p : Program} {l : Launch} {e : Env} {R : Room} {s : State} {m : MethodId} {args : Array Value} {below : List Frame} {meth : Method} {c : Code} {H : Heap} {locs : List Loc} {cells slots : Nat} {Q : State → Prop} {cc : ByteArray} {pc : Nat} {ls : Array Slot} {rest : List Value} {D : va_G} {cl : List vw_C} {a : Nat} {ws : va_W} (hexec : p.tables.exec = Jvm.exec) (hb : c.code = cc) (hP : va_P D cl ws H) (q0 : Nat) {cA : ClassId} {n : Nat} {f : Nat → Option Nat} (ha : ws[q0]? = some (a, .inl (cA, n, .inr (.inr (.inr (.inr f)))))) (hT : ArrOfT s cA (.array .int)) {i : Int32} (hin : vp_in i n) (hdg : decode cc pc = .ok (.aaload, 1))
    (kk : W p l e R s m args below meth c H locs cells slots Q (F0 m (pc + 1) ls (va_rf (f i.toNatClampNeg) :: rest))) : W p l e R s m args below meth c H locs cells slots Q (F0 m pc ls (.int i :: .ref a :: rest)) := by
  have hlt : i.toNatClampNeg < n := Nat.not_le.mp fun q => hin (Or.inr q)
  exact W.aald (v := va_rf (f i.toNatClampNeg)) (ty := .array .int) hexec hb (hP q0 _ ha) (hT n (fun j => va_rf (f j))) rfl (fun q => by cases q) (by show ¬ (i < 0 ∨ (arrV _ _ _).slots.size ≤ _); rw [arrV_size]; exact hin) (by show (arrV _ _ _).slots[_]? = _; rw [arrV_read _ _ hlt]) rfl rfl hdg kk
theorem inB_lt {i : Int32} {n : Nat} (h : inB i n = true) : i.toNatClampNeg < n := by
  unfold inB at h
  simp only [Bool.and_eq_true] at h
  have := Nat.le_of_ble_eq_true h.2
  omega
theorem cond_some {α : Type} {b : Bool} {x : Option α} {t : α} (h : cond b x none = some t) : b = true ∧ x = some t := by
  cases b with
  | true => exact ⟨rfl, h⟩
  | false => cases h
theorem putOk_nf {ty : FieldType} {v : Value} (h : putOk ty v = true) : narrow ty v = v ∧ fits ty v = true := by
  unfold putOk at h
  split at h
  · exact ⟨rfl, rfl⟩
  · next x =>
    simp only [Bool.or_eq_true, decide_eq_true_eq] at h
    rcases h with rfl | rfl <;> exact ⟨rfl, rfl⟩
  · exact ⟨rfl, rfl⟩
  · exact ⟨rfl, rfl⟩
  · cases h
theorem putOk_cv {am xa : Nat → Nat} {ty : FieldType} {v : Value} (h : putOk ty v = true) : putOk ty (cv am xa v) = true := by
  cases v with
  | ref k => cases ty <;> first | exact h | cases h
  | _ => exact h
set_option maxHeartbeats 4000000 in
theorem step1_sat {M : MI} {X : AX} {p : Program} {l : Launch} {e : Env} {R : Room} {s : State} {m : MethodId} {args : Array Value} {below : List Frame} {meth : Method} {c : Code} {D : va_G} {xa : Nat → Nat} {A : Nat → Prop} {am0 : Nat → Nat} {n0 : Nat} {Q : State → Prop} (ok : MOk M) (cx : CxOk M X p R s m args meth c D xa A) {σ τ : AS} (hst : step1 M X σ = some τ) (k : Sat M p l e R s m args below meth c D xa A am0 n0 Q τ) : Sat M p l e R s m args below meth c D xa A am0 n0 Q σ := by
  obtain ⟨hx, hb, hml, hts, hnw, hov, hown, hini, hA, hK, hZ, hT, -⟩ := cx
  obtain ⟨pc, ls, st, h, cc, cs⟩ := σ
  intro am H locs ws lsC hn0 ham hH hS hl hg
  dsimp only at hn0 ham hH hl hg ⊢
  unfold step1 at hst
  dsimp only at hst
  generalize hq : mk M pc = q at hst
  obtain ⟨i, len, nx, v, a, b⟩ := q
  dsimp only at hst
  have go : ∀ {nx : Nat} {st' : List Value}, some (nx, ls, st', h, cc, cs) = some τ → W p l e R s m args below meth c H locs cc cs Q (F0 m nx lsC (st'.map (cv am xa))) := by
    intro nx st' e1
    cases e1
    exact k am H locs ws lsC hn0 ham hH hS hl hg
  have put : ∀ {nx : Nat} {st' : List Value} {h' : AH} {H1 : Heap} {locs1 : List Loc} {ws1 : va_W}, some (nx, ls, st', h', cc, cs) = some τ → h'.length = h.length → HOk D s A am xa h' H1 ws1 → va_S A s.heap H1 locs1 → W p l e R s m args below meth c H1 locs1 cc cs Q (F0 m nx lsC (st'.map (cv am xa))) := by
    intro nx st' h' H1 locs1 ws1 e1 e2 e3 e4
    cases e1
    exact k am H1 locs1 ws1 lsC (by dsimp only; omega) (by dsimp only; rw [e2]; exact ham) e3 e4 hl hg
  have sto : ∀ {nx : Nat} {st' : List Value} {i : Nat} {w : Value} (ls' : Array Slot), some (nx, setL ls i w, st', h, cc, cs) = some τ → w.category = 1 → lv_has ls' (mL M) ((i, cv am xa w) :: (lc am xa ls).filter (fun q => !(q.1 == i) && !(q.1 + 1 == i && q.2.category == 2))) → W p l e R s m args below meth c H locs cc cs Q (F0 m nx ls' (st'.map (cv am xa))) := by
    intro nx st' i w ls' e1 e2 e3
    cases e1
    exact k am H locs ws ls' hn0 ham hH hS (lc_set hg e3) (gL_set hg e2)
  cases i
  case iconst n =>
    dsimp only at hst
    obtain ⟨d, rfl, o⟩ := ok_at ok hq (by simp [ilen])
    simp only [okI, Bool.and_eq_true, decide_eq_true_eq] at o
    exact lv_iconst hx hb d o.2.2.symm (go hst)
  case bipush n =>
    dsimp only at hst
    obtain ⟨d, rfl, o⟩ := ok_at ok hq (by simp [ilen])
    simp only [okI, Bool.and_eq_true, decide_eq_true_eq] at o
    exact lv_bipush hx hb d o.2.2.symm (go hst)
  case sipush n =>
    dsimp only at hst
    obtain ⟨d, rfl, o⟩ := ok_at ok hq (by simp [ilen])
    simp only [okI, Bool.and_eq_true, decide_eq_true_eq] at o
    exact lv_sipush hx hb d o.2.2.symm (go hst)
  case iload n =>
    dsimp only at hst
    obtain ⟨d, rfl, o⟩ := ok_at ok hq (by simp [ilen])
    simp only [okI, Bool.and_eq_true, decide_eq_true_eq] at o
    split at hst
    · next x hx2 => exact lv_iload hx hb d (by rw [o.2.2]; exact lc_get hl hx2) (go hst)
    · cases hst
  case iload_n n =>
    dsimp only at hst
    obtain ⟨d, rfl, o⟩ := ok_at ok hq (by simp [ilen])
    simp only [okI, Bool.and_eq_true, decide_eq_true_eq] at o
    split at hst
    · next x hx2 => exact lv_iload_n hx hb d o.2.2 (lc_get hl hx2) (go hst)
    · cases hst
  case aload n =>
    dsimp only at hst
    obtain ⟨d, rfl, o⟩ := ok_at ok hq (by simp [ilen])
    simp only [okI, Bool.and_eq_true, decide_eq_true_eq] at o
    split at hst
    · next x hx2 => exact lv_aload hx hb d (by rw [o.2.2]; exact lc_get hl hx2) (go hst)
    · cases hst
  case aload_n n =>
    dsimp only at hst
    obtain ⟨d, rfl, o⟩ := ok_at ok hq (by simp [ilen])
    simp only [okI, Bool.and_eq_true, decide_eq_true_eq] at o
    split at hst
    · next x hx2 => exact lv_aload_n hx hb d o.2.2 (lc_get hl hx2) (go hst)
    · cases hst
  case istore n =>
    dsimp only at hst
    obtain ⟨d, rfl, o⟩ := ok_at ok hq (by simp [ilen])
    simp only [okI, Bool.and_eq_true, decide_eq_true_eq] at o
    obtain rfl := o.2.2
    split at hst
    · next x r =>
      obtain ⟨c1, c2⟩ := cond_some hst
      exact lv_istore hx hb d hl (Nat.lt_of_succ_le (Nat.le_of_ble_eq_true c1)) rfl (fun ls' hl' => sto ls' c2 rfl hl')
    · cases hst
  case istore_n n =>
    dsimp only at hst
    obtain ⟨d, rfl, o⟩ := ok_at ok hq (by simp [ilen])
    simp only [okI, Bool.and_eq_true, decide_eq_true_eq] at o
    split at hst
    · next x r =>
      obtain ⟨c1, c2⟩ := cond_some hst
      exact lv_istore_n hx hb d o.2.2 hl (Nat.lt_of_succ_le (Nat.le_of_ble_eq_true c1)) rfl (fun ls' hl' => sto ls' c2 rfl hl')
    · cases hst
  case astore_n n =>
    dsimp only at hst
    obtain ⟨d, rfl, o⟩ := ok_at ok hq (by simp [ilen])
    simp only [okI, Bool.and_eq_true, decide_eq_true_eq] at o
    split at hst
    · next x r =>
      obtain ⟨c1, c2⟩ := cond_some hst
      exact lv_astore_n hx hb d o.2.2 hl (Nat.lt_of_succ_le (Nat.le_of_ble_eq_true c1)) rfl (fun ls' hl' => sto ls' c2 rfl hl')
    · cases hst
  case iinc n z =>
    dsimp only at hst
    obtain ⟨d, rfl, o⟩ := ok_at ok hq (by simp [ilen])
    simp only [okI, Bool.and_eq_true, decide_eq_true_eq] at o
    obtain ⟨ov, rfl⟩ := o.2.2
    split at hst
    · next x hx2 =>
      obtain ⟨c1, c2⟩ := cond_some hst
      obtain ⟨j, hj⟩ := List.getElem?_of_mem (List.mem_map.mpr ⟨_, getL_mem hx2, rfl⟩ : (n, cv am xa (.int x)) ∈ lc am xa ls)
      exact lv_iinc hx hb d hl hj rfl (Nat.lt_of_succ_le (Nat.le_of_ble_eq_true c1)) rfl (fun ls' hl' => sto ls' c2 rfl (by rw [ov]; exact hl'))
    · cases hst
  case iadd =>
    dsimp only at hst
    obtain ⟨d, rfl, o⟩ := ok_at ok hq (by simp [ilen])
    split at hst
    · exact lv_iadd hx hb d (go hst)
    · cases hst
  case isub =>
    dsimp only at hst
    obtain ⟨d, rfl, o⟩ := ok_at ok hq (by simp [ilen])
    split at hst
    · exact lv_isub hx hb d (go hst)
    · cases hst
  case imul =>
    dsimp only at hst
    obtain ⟨d, rfl, o⟩ := ok_at ok hq (by simp [ilen])
    split at hst
    · exact lv_imul hx hb d (go hst)
    · cases hst
  case iand =>
    dsimp only at hst
    obtain ⟨d, rfl, o⟩ := ok_at ok hq (by simp [ilen])
    split at hst
    · exact lv_iand hx hb d (go hst)
    · cases hst
  case ior =>
    dsimp only at hst
    obtain ⟨d, rfl, o⟩ := ok_at ok hq (by simp [ilen])
    split at hst
    · exact lv_ior hx hb d (go hst)
    · cases hst
  case ishl =>
    dsimp only at hst
    obtain ⟨d, rfl, o⟩ := ok_at ok hq (by simp [ilen])
    split at hst
    · exact lv_ishl hx hb d (go hst)
    · cases hst
  case ishr =>
    dsimp only at hst
    obtain ⟨d, rfl, o⟩ := ok_at ok hq (by simp [ilen])
    split at hst
    · exact lv_ishr hx hb d (go hst)
    · cases hst
  case idiv =>
    dsimp only at hst
    obtain ⟨d, rfl, o⟩ := ok_at ok hq (by simp [ilen])
    split at hst
    · next y x r =>
      by_cases hy : y = 0
      · rw [show decide (y = 0) = true by simp [hy]] at hst; cases hst
      · rw [show decide (y = 0) = false by simp [hy]] at hst
        exact lv_idiv hx hb d hy (go hst)
    · cases hst
  case irem =>
    dsimp only at hst
    obtain ⟨d, rfl, o⟩ := ok_at ok hq (by simp [ilen])
    split at hst
    · next y x r =>
      by_cases hy : y = 0
      · rw [show decide (y = 0) = true by simp [hy]] at hst; cases hst
      · rw [show decide (y = 0) = false by simp [hy]] at hst
        exact lv_irem hx hb d hy (go hst)
    · cases hst
  case ineg =>
    dsimp only at hst
    obtain ⟨d, rfl, o⟩ := ok_at ok hq (by simp [ilen])
    split at hst
    · exact lv_ineg hx hb d (go hst)
    · cases hst
  case i2c =>
    dsimp only at hst
    obtain ⟨d, rfl, o⟩ := ok_at ok hq (by simp [ilen])
    split at hst
    · exact lv_i2c hx hb d rfl (go hst)
    · cases hst
  case dup =>
    dsimp only at hst
    obtain ⟨d, rfl, o⟩ := ok_at ok hq (by simp [ilen])
    split at hst
    · exact lv_dup hx hb d rfl (go hst)
    · exact lv_dup hx hb d rfl (go hst)
    · cases hst
  case dup2 =>
    dsimp only at hst
    obtain ⟨d, rfl, o⟩ := ok_at ok hq (by simp [ilen])
    split at hst
    · exact lv_dup2_11 hx hb d rfl rfl (go hst)
    · cases hst
  case goto off =>
    dsimp only at hst
    obtain ⟨d, rfl, o⟩ := ok_br ok hq (off := off) (Or.inl rfl)
    exact lv_goto hx hb d o (go hst)
  case if_icmp c1 off =>
    dsimp only at hst
    obtain ⟨d, rfl, o⟩ := ok_br ok hq (off := off) (Or.inr (Or.inl ⟨_, rfl⟩))
    split at hst
    · exact cmp_ic hx hb d o (fun z => go (by rw [z] at hst; exact hst)) (fun z => go (by rw [z] at hst; exact hst))
    · cases hst
  case ifCond c1 off =>
    dsimp only at hst
    obtain ⟨d, rfl, o⟩ := ok_br ok hq (off := off) (Or.inr (Or.inr (Or.inl ⟨_, rfl⟩)))
    split at hst
    · exact cmp_if hx hb d o (fun z => go (by rw [z] at hst; exact hst)) (fun z => go (by rw [z] at hst; exact hst))
    · cases hst
  case ifnull off =>
    dsimp only at hst
    obtain ⟨d, rfl, o⟩ := ok_br ok hq (off := off) (by simp)
    split at hst
    · exact lv_ifnull hx hb d (go hst)
    · cases hst
  case ifnonnull off =>
    dsimp only at hst
    obtain ⟨d, rfl, o⟩ := ok_br ok hq (off := off) (by simp)
    split at hst
    · exact lv_ifnonnull hx hb d o (go hst)
    · cases hst
  case getfield idx =>
    dsimp only at hst
    obtain ⟨d, rfl, o⟩ := ok_at ok hq (by simp [ilen])
    simp only [okI, Bool.and_eq_true] at o
    obtain ⟨C, T, N, hc, hk, hC, hlink⟩ := okF_some o.2.2
    split at hst
    · next o1 r =>
      split at hst
      · next ci fs hnt =>
        obtain ⟨c1, c2⟩ := cond_some hst
        have hci : ci = a := Nat.eq_of_beq_eq_true c1
        subst hci
        obtain ⟨hk1, e1, he1, he2⟩ := hH.at hnt
        obtain rfl : e1 = _ := he2
        split at c2
        · next w hw =>
          show W p l e R s m args below meth c H locs cc cs Q (F0 m pc lsC (cv am xa (.ref o1) :: r.map (cv am xa)))
          rw [cv_ref am hk1]
          exact va_get hx hb hts (cl_in _ _ _ _ hc).1 hown hK hH.1 o1 he1 hc b hk (hts _ hlink) (fun x hx2 => by rw [hC] at hx2; exact hx2) (by rw [List.getElem?_map, nth_some hw]; rfl) d (go c2)
        · cases c2
      · cases hst
    · cases hst
  case putfield idx =>
    dsimp only at hst
    obtain ⟨d, rfl, o⟩ := ok_at ok hq (by simp [ilen])
    simp only [okI, Bool.and_eq_true] at o
    obtain ⟨C, T, N, hc, hk, hC, hlink⟩ := okF_some o.2.2
    split at hst
    · next w o1 r =>
      split at hst
      · next ci fs hnt =>
        obtain ⟨c1, c2⟩ := cond_some hst
        simp only [Bool.and_eq_true] at c1
        obtain ⟨c1, c3, c4, c5⟩ := c1
        have hci : ci = a := Nat.eq_of_beq_eq_true c1
        subst hci
        obtain ⟨hk1, e1, he1, he2⟩ := hH.at hnt
        obtain rfl : e1 = _ := he2
        have hlen : b < fs.length := by have := Nat.le_of_ble_eq_true c5; omega
        obtain ⟨n1, n2⟩ := putOk_nf (putOk_cv (am := am) (xa := xa) c3)
        obtain ⟨i1, i2, i3⟩ := cl_in _ _ _ _ hc
        have fin : ∀ (H1 : Heap) (locs1 : List Loc), va_P D vwCl (ws.set o1 (am o1, .inr (ci, (fs.map (cv am xa)).set b (cv am xa w)))) H1 → va_D A (ws.set o1 (am o1, .inr (ci, (fs.map (cv am xa)).set b (cv am xa w)))) → va_S A s.heap H1 locs1 → W p l e R s m args below meth c H1 locs1 cc cs Q (F0 m (pc + 3) lsC (r.map (cv am xa))) := by
          intro H1 locs1 hP1 hD1 hS1
          exact put c2 (by simp [setN_eq]) (hH.set hP1 hD1 (by show _ = _; rw [setN_eq, List.map_set])) hS1
        show W p l e R s m args below meth c H locs cc cs Q (F0 m pc lsC (cv am xa w :: cv am xa (.ref o1) :: r.map (cv am xa)))
        rw [cv_ref am hk1]
        have hfin := c4
        unfold finOk at hfin
        rw [nth_eq, hc] at hfin
        simp only [Bool.or_eq_true, Bool.and_eq_true, decide_eq_true_eq] at hfin
        cases hf : (T b).2.2.2 with
        | false => exact va_put hx hb hts i1 (fty ci) i2 i3 hown hK hH.1 hH.2.1 hS o1 he1 hc b hk (hts _ hlink) (fun x hx2 => by rw [hC] at hx2; exact hx2) hf (i2 b hk) n1 n2 (by simpa using hlen) d fin
        | true =>
          rw [hf] at hfin
          rcases hfin with z | z
          · cases z
          · exact va_putF hx hb hts i1 (fty ci) i2 i3 hown hK hH.1 hH.2.1 hS o1 he1 hc b hk (hts _ hlink) (fun x hx2 => by rw [hC] at hx2; exact hx2) hf (hini z.1) z.2 (i2 b hk) n1 n2 (by simpa using hlen) d fin
      · cases hst
    · cases hst
  case getstatic idx =>
    dsimp only at hst
    obtain ⟨d, rfl, o⟩ := ok_at ok hq (by simp [ilen])
    simp only [okI, okS, Bool.and_eq_true, Bool.or_eq_true, decide_eq_true_eq] at o
    have hz := hZ a o.2.2.1
    have hc : cv am xa (.ref (1000 + a)) = .ref (xa a) := by rw [cv_ext am (Nat.le_add_right _ _), Nat.add_sub_cancel_left]
    have g := go hst
    rw [List.map_cons, hc] at g
    rcases o.2.2.2 with w | w
    · exact va_gets hx hb hz hS hown (hts _ (okw_in w)) (fun x hx2 => hx2) d g
    · exact va_getsN hx hb hz hS hown (nw_before (hnw _ w) args) (fun x hx2 => hx2) d g
  case arraylength =>
    dsimp only at hst
    obtain ⟨d, rfl, o⟩ := ok_at ok hq (by simp [ilen])
    split at hst
    · next o1 r =>
      cases hb1 : Nat.ble 1000 o1 with
      | true =>
        rw [hb1] at hst
        dsimp only [cond_true] at hst
        split at hst
        · next n f hX =>
          show W p l e R s m args below meth c H locs cc cs Q (F0 m pc lsC (cv am xa (.ref o1) :: r.map (cv am xa)))
          rw [cv_ext am (Nat.le_of_ble_eq_true hb1)]
          exact va_tlen hx hb (hT _ _ _ hX) hS rfl d (go hst)
        · cases hst
      | false =>
        rw [hb1] at hst
        dsimp only [cond_false] at hst
        split at hst
        · next ty n f hnt =>
          obtain ⟨hk1, e1, he1, cA, rfl, hTT⟩ := hH.at hnt
          show W p l e R s m args below meth c H locs cc cs Q (F0 m pc lsC (cv am xa (.ref o1) :: r.map (cv am xa)))
          rw [cv_ref am hk1]
          exact va_alen hx hb (tys := [(cA, ty)]) ⟨hK.1, fun k9 q9 h9 => by
            have : k9 < 1 := (List.getElem?_eq_some_iff.mp h9).1
            rw [show k9 = 0 by omega] at h9
            cases h9
            exact hTT⟩ hH.1 o1 0 he1 rfl rfl d (go hst)
        · cases hst
    · cases hst
  case iaload =>
    dsimp only at hst
    obtain ⟨d, rfl, o⟩ := ok_at ok hq (by simp [ilen])
    split at hst
    · next j o1 r =>
      cases hb1 : Nat.ble 1000 o1 with
      | true =>
        rw [hb1] at hst
        dsimp only [cond_true] at hst
        split at hst
        · next n f hX =>
          obtain ⟨c1, c2⟩ := cond_some hst
          show W p l e R s m args below meth c H locs cc cs Q (F0 m pc lsC (.int j :: cv am xa (.ref o1) :: r.map (cv am xa)))
          rw [cv_ext am (Nat.le_of_ble_eq_true hb1)]
          exact va_ti hx hb (hT _ _ _ hX) hS (inB_vp c1) rfl d (go c2)
        · cases hst
      | false =>
        rw [hb1] at hst
        dsimp only [cond_false] at hst
        split at hst
        · next n f hnt =>
          obtain ⟨c1, c2⟩ := cond_some hst
          obtain ⟨hk1, e1, he1, cA, rfl, hTT⟩ := hH.at hnt
          show W p l e R s m args below meth c H locs cc cs Q (F0 m pc lsC (.int j :: cv am xa (.ref o1) :: r.map (cv am xa)))
          rw [cv_ref am hk1]
          exact va_iald hx hb (tys := [(cA, .int)]) ⟨hK.1, fun k9 q9 h9 => by
            have : k9 < 1 := (List.getElem?_eq_some_iff.mp h9).1
            rw [show k9 = 0 by omega] at h9
            cases h9
            exact hTT⟩ hH.1 o1 0 he1 rfl (inB_vp c1) d (go c2)
        · cases hst
    · cases hst
  case caload =>
    dsimp only at hst
    obtain ⟨d, rfl, o⟩ := ok_at ok hq (by simp [ilen])
    split at hst
    · next j o1 r =>
      split at hst
      · next n f hnt =>
        obtain ⟨c1, c2⟩ := cond_some hst
        obtain ⟨hk1, e1, he1, cA, rfl, hTT⟩ := hH.at hnt
        show W p l e R s m args below meth c H locs cc cs Q (F0 m pc lsC (.int j :: cv am xa (.ref o1) :: r.map (cv am xa)))
        rw [cv_ref am hk1]
        exact va_cald hx hb (tys := [(cA, .char)]) ⟨hK.1, fun k9 q9 h9 => by
          have : k9 < 1 := (List.getElem?_eq_some_iff.mp h9).1
          rw [show k9 = 0 by omega] at h9
          cases h9
          exact hTT⟩ hH.1 o1 0 he1 rfl (inB_vp c1) d (go c2)
      · cases hst
    · cases hst
  case aaload =>
    dsimp only at hst
    obtain ⟨d, rfl, o⟩ := ok_at ok hq (by simp [ilen])
    split at hst
    · next j o1 r =>
      split at hst
      · next n g hnt =>
        obtain ⟨c1, c2⟩ := cond_some hst
        simp only [Bool.and_eq_true] at c1
        obtain ⟨hk1, e1, he1, cA, rfl, hTT⟩ := hH.at hnt
        have g2 := go c2
        rw [List.map_cons, cv_ref am (by have := Nat.le_of_ble_eq_true c1.2; omega)] at g2
        show W p l e R s m args below meth c H locs cc cs Q (F0 m pc lsC (.int j :: cv am xa (.ref o1) :: r.map (cv am xa)))
        rw [cv_ref am hk1]
        exact va_aldA hx hb hH.1 o1 he1 hTT.1 (inB_vp c1.1) d (by rw [if_pos (inB_lt c1.1)]; exact g2)
      · cases hst
    · cases hst
  case iastore =>
    dsimp only at hst
    obtain ⟨d, rfl, o⟩ := ok_at ok hq (by simp [ilen])
    split at hst
    · next x j o1 r =>
      split at hst
      · next n f hnt =>
        obtain ⟨c1, c2⟩ := cond_some hst
        obtain ⟨hk1, e1, he1, cA, rfl, hTT⟩ := hH.at hnt
        show W p l e R s m args below meth c H locs cc cs Q (F0 m pc lsC (.int x :: .int j :: cv am xa (.ref o1) :: r.map (cv am xa)))
        rw [cv_ref am hk1]
        exact va_iast hx hb (tys := [(cA, .int)]) ⟨hK.1, fun k9 q9 h9 => by
          have : k9 < 1 := (List.getElem?_eq_some_iff.mp h9).1
          rw [show k9 = 0 by omega] at h9
          cases h9
          exact hTT⟩ hH.1 hH.2.1 hS o1 0 he1 rfl (inB_vp c1) d (fun H1 locs1 hP1 hD1 hS1 => put c2 (by simp [setN_eq]) (hH.set hP1 hD1 ⟨cA, rfl, hTT⟩) hS1)
      · cases hst
    · cases hst
  case castore =>
    dsimp only at hst
    obtain ⟨d, rfl, o⟩ := ok_at ok hq (by simp [ilen])
    split at hst
    · next x j o1 r =>
      split at hst
      · next n f hnt =>
        obtain ⟨c1, c2⟩ := cond_some hst
        obtain ⟨hk1, e1, he1, cA, rfl, hTT⟩ := hH.at hnt
        show W p l e R s m args below meth c H locs cc cs Q (F0 m pc lsC (.int x :: .int j :: cv am xa (.ref o1) :: r.map (cv am xa)))
        rw [cv_ref am hk1]
        exact va_cast hx hb (tys := [(cA, .char)]) ⟨hK.1, fun k9 q9 h9 => by
          have : k9 < 1 := (List.getElem?_eq_some_iff.mp h9).1
          rw [show k9 = 0 by omega] at h9
          cases h9
          exact hTT⟩ hH.1 hH.2.1 hS o1 0 he1 rfl (inB_vp c1) d (fun H1 locs1 hP1 hD1 hS1 => put c2 (by simp [setN_eq]) (hH.set hP1 hD1 ⟨cA, rfl, hTT⟩) hS1)
      · cases hst
    · cases hst
  all_goals first | cases hst | (dsimp only at hst; cases hst)
theorem Rch.st1 {M : MI} {X : AX} {σ τ : AS} {Ψ : AS → Prop} (h : step1 M X σ = some τ) (k : Rch M X τ Ψ) : Rch M X σ Ψ :=
  fun ok p l e R s m args below meth c D xa A am0 n0 Q cx f => step1_sat ok cx h (k ok p l e R s m args below meth c D xa A am0 n0 Q cx f)
theorem Rch.st {M : MI} {X : AX} {Ψ : AS → Prop} (n : Nat) : ∀ {σ τ : AS}, stepN M X n σ = some τ → Rch M X τ Ψ → Rch M X σ Ψ := by
  induction n with
  | zero => intro σ τ h k; cases h; exact k
  | succ n ih =>
    intro σ τ h k
    unfold stepN at h
    split at h
    · next ρ hρ => exact Rch.st1 hρ (ih h k)
    · cases h
end
section
/-! ===== contracts of the small machine, and calls ===== -/
theorem ao_moved {u U : State} (hvm : u.vm.Alike U.vm) (h : (Cond.arrayOver (.array .int)).before #[] u = true) : (Cond.arrayOver (.array .int)).before #[] U = true := by
  unfold Cond.before Cond.holds at h ⊢
  simp only [Cond.value] at h ⊢
  rw [hvm.findClass]
  cases hc : u.vm.findClass (FieldType.array FieldType.int).toString with
  | none => rw [hc] at h; simp at h
  | some comp =>
    rw [hc] at h
    simp only [Option.bind_some, beq_iff_eq, Option.bind_eq_some_iff, Option.map_eq_some_iff] at h
    obtain ⟨c, h2, k, hk, h3⟩ := h
    split at h3
    · next comp2 ty hkind =>
      simp only [Bool.and_eq_true, decide_eq_true_eq] at h3
      obtain ⟨rfl, h4⟩ := h3
      obtain ⟨k', hk', he⟩ := hvm.2.2 _ _ hk
      have hi : (U.vm.classes.findIdx? fun (x : Class) => match x.kind with | .array component _ => component == comp | _ => false) = some c := by
        have e1 := va_idx_bare U.vm comp
        have e2 := va_idx_bare u.vm comp
        have e3 : U.vm.bare = u.vm.bare := by first | exact hvm.bare_eq | exact hvm.bare_eq.symm
        rw [e3] at e1
        exact e1.symm.trans (e2.trans h2)
      have hkind' : k'.kind = .array comp2 (.array .int) := by rw [he]; exact hkind
      have f2 : U.vm.findClass ("[" ++ (FieldType.array FieldType.int).toString) = some c := by rw [hvm.findClass]; exact h4
      rw [Option.bind_some]
      refine (congrArg (fun o : Option Nat => (o.bind (fun c => (U.vm.classes[c]?).map fun (k : Class) => match k.kind with | .array _ ty => decide (ty = FieldType.array .int) && decide (U.vm.findClass ("[" ++ (FieldType.array .int).toString) = some c) | _ => false)) == some true) hi).trans ?_
      simp [hk', hkind', f2]
    · cases h3
def argL : Nat → List Value → AL
  | _, [] => []
  | i, v :: t => (i, v) :: argL (i + 1) t
def retAt (M : MI) (pc : Nat) (st : List Value) (rv : Option Value) : Prop := ((mk M pc).1 = .ireturn ∧ ∃ v ty, st = [.int v] ∧ rv = some (.int v) ∧ mr M = some ty ∧ narrow ty (.int v) = .int v) ∨ ((mk M pc).1 = .return_ ∧ st = [] ∧ rv = none ∧ mr M = none)
def RetP (M : MI) (Φ : Option Value → AH → Prop) (τ : AS) : Prop := τ.2.2.2.2.1 ≤ mC M ∧ τ.2.2.2.2.2 ≤ mS M ∧ ∃ rv, retAt M τ.1 τ.2.2.1 rv ∧ Φ rv τ.2.2.2.1
/-- the method, called with these arguments over this heap, returns, and answer and heap are Φ -/
def Ct (M : MI) (X : AX) (args : List Value) (h : AH) (Φ : Option Value → AH → Prop) : Prop := MOk M ∧ Rch M X (0, argL 0 args, [], h, 0, 0) (RetP M Φ)
def wm (M : MI) : List Cond := .code (my M) (mb M) (mL M) (mr M) :: gw
def rmM (M : MI) : Room := { frames := mF M, cells := mC M, slots := mS M, locals := mW M }
def PcU (X : AX) (D : va_G) (xa am : Nat → Nat) (h : AH) (ws : va_W) (sz : Nat) (U : State) : Prop :=
  U.heap.size = sz ∧ HOk D U (fun _ => True) am xa h U.heap ws ∧ va_K D vwCl [] U ∧ (∀ w ∈ nw, va_Nw w U) ∧ (Cond.arrayOver (.array .int)).before #[] U = true ∧ (∀ k, k < 7 → va_Z "BargeBallast" (stN k) "[I" (.ref (xa k)) (va_A ws sz) U U.heap) ∧ (∀ k n f, X k = some (n, f) → va_T .int (xa k) n (fun j => .int (f j)) (va_A ws sz) U U.heap)
def QcO (D : va_G) (xa am : Nat → Nat) (h : AH) (ws : va_W) (sz : Nat) (Φ : Option Value → AH → Prop) : Array Value → State → Outcome → State → Prop := fun _ st o t =>
  (∃ (rv : Option Value) (h' : AH) (am' : Nat → Nat) (ws' : va_W), o = .returned (rv.map (cv am' xa)) ∧ Φ rv h' ∧ (∀ k, (k < h.length ∨ h'.length ≤ k) → am' k = am k) ∧ h.length ≤ h'.length ∧ HOk D t (va_A ws sz) am' xa h' t.heap ws') ∧ va_F (va_A ws sz) st t
theorem aT.moved {u U : State} (hvm : u.vm.Alike U.vm) {cA : ClassId} {ty : FieldType} (h : aT u cA ty) : aT U cA ty := ⟨arrOfT_moved hvm h.1, h.2.moved hvm⟩
theorem co_moved {u U : State} (hvm : u.vm.Alike U.vm) {am xa : Nat → Nat} {o : AO} {e : va_E} (h : co u am xa o e) : co U am xa o e := by
  match o, h with
  | .inl (ty, n, f), ⟨cA, h1, h2⟩ => exact ⟨cA, h1, h2.moved hvm⟩
  | .inr (.inl (n, g)), ⟨cA, h1, h2⟩ => exact ⟨cA, h1, h2.moved hvm⟩
  | .inr (.inr (ci, fs)), h => exact h
theorem HOk.moved {D : va_G} {u U : State} (hvm : u.vm.Alike U.vm) {A : Nat → Prop} {am xa : Nat → Nat} {h : AH} {H : Heap} {ws : va_W} (hH : HOk D u A am xa h H ws) : HOk D U A am xa h H ws := by
  obtain ⟨h1, h2, h3, h4, h5⟩ := hH
  refine ⟨h1, h2, h3, h4, fun k o hk => ?_⟩
  obtain ⟨e, e1, e2⟩ := h5 k o hk
  exact ⟨e, e1, co_moved hvm e2⟩
theorem HOk.weak {D : va_G} {u : State} {A B : Nat → Prop} {am xa : Nat → Nat} {h : AH} {H : Heap} {ws : va_W} (hH : HOk D u A am xa h H ws) (hAB : ∀ (k : Nat) (q : Nat × va_E), ws[k]? = some q → A q.1 → B q.1) : HOk D u B am xa h H ws := by
  obtain ⟨h1, h2, h3, h4, h5⟩ := hH
  exact ⟨h1, h2.weaken (fun k q hk hA => hAB k q hk hA), h3, h4, h5⟩
theorem nw_moved {s U : State} (hW : s.WarmedH U.vm) (h : ∀ w ∈ nw, va_Nw w s) : ∀ w ∈ nw, va_Nw w U := by
  intro w hw
  have hs := h w hw
  simp only [nw, List.mem_cons, List.not_mem_nil, or_false] at hw
  rcases hw with rfl | rfl | rfl | rfl | rfl | rfl | rfl | rfl | rfl | rfl
  all_goals first | exact va_Nw.warmF hW hs | exact va_Nw.warmM hW hs
theorem argL_eq {am xa : Nat → Nat} : ∀ (vs : List Value) (i : Nat), (∀ v ∈ vs, v.category = 1) → lv_args i (vs.map (cv am xa)) = lc am xa (argL i vs)
  | [], _, _ => rfl
  | v :: t, i, h => by
    have h1 : ¬ v.category = 2 := by have := h v List.mem_cons_self; omega
    simp only [List.map_cons, lv_args, argL, lc, cv_cat, h1, if_false]
    exact congrArg _ (argL_eq t (i + 1) (fun v hv => h v (List.mem_cons_of_mem _ hv)))
theorem argL_fst : ∀ (vs : List Value) (i : Nat), (∀ q ∈ argL i vs, i ≤ q.1) ∧ ((argL i vs).map Prod.fst).Nodup
  | [], _ => ⟨(fun _ h => by cases h), List.nodup_nil⟩
  | v :: t, i => by
    obtain ⟨h1, h2⟩ := argL_fst t (i + 1)
    refine ⟨fun q hq => ?_, ?_⟩
    · rcases List.mem_cons.mp hq with e | e
      · rw [e]; exact Nat.le_refl _
      · have := h1 q e; omega
    · simp only [argL, List.map_cons, List.nodup_cons]
      refine ⟨fun hm => ?_, h2⟩
      obtain ⟨q, hq, e⟩ := List.mem_map.mp hm
      have := h1 q hq
      omega
theorem argL_cat : ∀ (vs : List Value) (i : Nat), (∀ v ∈ vs, v.category = 1) → ∀ q ∈ argL i vs, q.2.category = 1
  | [], _, _, _, h => by cases h
  | v :: t, i, h, q, hq => by
    rcases List.mem_cons.mp hq with e | e
    · rw [e]; exact h v List.mem_cons_self
    · exact argL_cat t (i + 1) (fun v hv => h v (List.mem_cons_of_mem _ hv)) q e
theorem lg_sl_len (vs : List Value) (h : ∀ v ∈ vs, v.category = 1) : (lg_sl vs).length = vs.length := by
  induction vs with
  | nil => rfl
  | cons v t ih =>
    have h1 : ¬ v.category = 2 := by have := h v List.mem_cons_self; omega
    have := ih (fun v hv => h v (List.mem_cons_of_mem _ hv))
    simp only [lg_sl, List.flatMap_cons, h1, if_false, List.length_append, List.length_cons, List.length_nil] at this ⊢
    unfold lg_sl at *
    omega
theorem cat_map {am xa : Nat → Nat} {vs : List Value} (h : ∀ v ∈ vs, v.category = 1) : ∀ v ∈ vs.map (cv am xa), v.category = 1 := by
  intro v hv
  obtain ⟨w, hw, rfl⟩ := List.mem_map.mp hv
  rw [cv_cat]; exact h w hw
set_option maxHeartbeats 1000000 in
theorem met_of {M : MI} {X : AX} {av : List Value} {h : AH} {Φ : Option Value → AH → Prop} (hC : Ct M X av h Φ) (hcat : ∀ v ∈ av, v.category = 1) (hlen : av.length ≤ mL M) (hy : plainName (my M).cls = true) (l : Launch) (D : va_G) (xa am : Nat → Nat) (ws : va_W) (sz : Nat) :
    Met l (my M) (wm M) (rmM M) (va_Pc (av.map (cv am xa)) (PcU X D xa am h ws sz)) (QcO D xa am h ws sz Φ) (mC M) (mS M) (va_A ws sz) := by
  refine Met.ofW (cc := mb M) (maxL := mL M) (ret := mr M) hy rfl ?_
  intro p e s m args below meth c s₁ B hml hv
  obtain ⟨rfl, hsz, hH, hK, hnw, hov, hZ, hT⟩ := hv
  subst hsz
  have hts : ∀ w ∈ gw, w.before (av.map (cv am xa)).toArray s = true := fun w hw => atoms_spec (ws := wm M) B.pre w (List.mem_cons_of_mem _ hw)
  have hown : s.vm.findClass (mo M) = some m.cls := findClass_of_methodNamed B.named
  have hA : ∀ q : Nat, s.heap.size ≤ q → va_A ws s.heap.size q := fun q hq => Or.inr hq
  have hin : (my M).name = "<init>" → meth.name = "<init>" := fun h9 => (name_of_methodNamed B.named B.method).1.trans h9
  have hlocks := B.notSynchronized
  have cx : CxOk M X p (headSpec (wm M) (rmM M)).room s m (av.map (cv am xa)).toArray meth c D xa (va_A ws s.heap.size) :=
    ⟨B.exec, B.bytes, hml, hts, hnw, hov, hown, hin, hA, hK, hZ, hT, Nat.le_refl _, Nat.le_refl _, Nat.le_refl _, Nat.le_refl _, hlocks⟩
  have hl := lv_entry (av.map (cv am xa)) (n := mL M) (by rw [lg_sl_len _ (cat_map hcat), List.length_map]; exact hlen)
  rw [argL_eq av 0 hcat] at hl
  rw [lg_entry_eq]
  refine hC.2 hC.1 p l e _ s m _ below meth c D xa (va_A ws s.heap.size) am h.length (MQ below (QcO D xa am h ws s.heap.size Φ) (av.map (cv am xa)).toArray s (mC M) (mS M) (va_A ws s.heap.size)) cx ?_ am s.heap [] ws _ (Nat.le_refl _) (fun _ _ => rfl) (hH.weak (fun k q hk _ => Or.inl ⟨k, q.2, hk⟩)) va_S.rf hl ⟨(argL_fst av 0).2, argL_cat av 0 hcat⟩
  rintro ⟨pc, ls, st, h', cc, cs⟩ ⟨hc1, hc2, rv, hret, hΦ⟩
  intro am' H locs ws' lsC hn0 ham hH' hS hl' hg
  dsimp only at hc1 hc2 hn0 ham hH' hl' hg hret hΦ ⊢
  refine W.widen hc1 hc2 ?_
  have fin : ∀ t : State, t.heap = H → s.WarmedH t.vm → QcO D xa am h ws s.heap.size Φ (av.map (cv am xa)).toArray s (.returned (rv.map (cv am' xa))) t := fun t ht hW =>
    ⟨⟨rv, h', am', ws', rfl, hΦ, ham, hn0, by rw [ht]; exact hH'.moved hW.alike⟩, hS.F ht⟩
  rcases hret with ⟨hi, v, ty, rfl, rfl, hr, hn⟩ | ⟨hi, rfl, rfl, hr⟩
  · generalize hq : mk M pc = q at hi
    obtain ⟨i, len, nx, v9, a, b⟩ := q
    dsimp only at hi
    subst hi
    obtain ⟨d, -, -⟩ := ok_at hC.1 hq (by simp [ilen])
    exact W.zret B.exec B.bytes (B.returns.trans hr) hn fin hS.2.2 d
  · generalize hq : mk M pc = q at hi
    obtain ⟨i, len, nx, v9, a, b⟩ := q
    dsimp only at hi
    subst hi
    obtain ⟨d, -, -⟩ := ok_at hC.1 hq (by simp [ilen])
    exact W.vret B.exec B.bytes (B.returns.trans hr) fin hS.2.2 d
theorem blind {X : AX} {D : va_G} {xa am : Nat → Nat} {h : AH} {ws : va_W} {sz : Nat} {av : List Value} : FrameBlind (va_Pc av (PcU X D xa am h ws sz)) := by
  intro a U g mk ⟨q0, q1, q2, q3, q4, q5, q6, q7⟩
  have hvm : U.vm.Alike (U.calling g mk a).vm := Vm.Alike.refl U.vm
  refine ⟨q0, q1, q2.moved hvm, va_K.moved hvm q3, fun w hw => ?_, ao_moved hvm q5, fun k hk => va_Z.moved hvm (q6 k hk), fun k n f hX => va_T.moved hvm (q7 k n f hX)⟩
  have hs := q4 w hw
  simp only [nw, List.mem_cons, List.not_mem_nil, or_false] at hw
  rcases hw with rfl | rfl | rfl | rfl | rfl | rfl | rfl | rfl | rfl | rfl
  all_goals exact va_Nw.same rfl (rfl : U.vm = (U.calling g mk a).vm) hs
end
section
def okM (M : MI) : Bool := okw (.code (my M) (mb M) (mL M) (mr M)) && (okw (.initialized (my M).cls) && (decide ((my M).cls ≠ "java/lang/invoke/MethodHandle") && (decide ((my M).cls ≠ "java/lang/invoke/VarHandle") && plainName (my M).cls)))
def okD (y : MethodName) (n : Nat) : Bool := decide ((parseMethodDescriptor y.desc).map (fun d => d.parameters.length) = some n)
def okV (own : String) (idx : Nat) (M : MI) (n : Nat) : Bool := okw (.methodLink own idx (my M)) && (okw (.instanceMethod (my M)) && (okw (.selects (my M).cls (my M) (my M)) && okD (my M) n))
def okSt (own : String) (idx : Nat) (M : MI) (n : Nat) : Bool := okw (.methodLink own idx (my M)) && (okw (.static (my M)) && okD (my M) n)
def okIn (own : String) (idx : Nat) (M : MI) (n : Nat) : Bool := okw (.methodLink own idx (my M)) && (okw (.instanceMethod (my M)) && (decide ((my M).name = "<init>") && (decide (mr M = none) && okD (my M) n)))
def okSN (own : String) (idx : Nat) (M : MI) (n : Nat) : Bool := decide (Cond.methodLinkNest own idx (my M) "BargeBallast" ∈ nw) && (okw (.static (my M)) && okD (my M) n)
def okIN (own : String) (idx : Nat) (M : MI) (n : Nat) : Bool := decide (Cond.methodLinkNest own idx (my M) "BargeBallast" ∈ nw) && (okw (.instanceMethod (my M)) && (decide ((my M).name = "<init>") && (decide (mr M = none) && okD (my M) n)))
/-- the caller has room for the callee -/
def okR (M M' : MI) : Bool := Nat.ble (mF M' + 1) (mF M) && Nat.ble (8 + (mL M' + 11) + mW M') (mW M)
def catOk (rest : List Value) : Bool := Nat.ble ((rest.map fun v => v.category).sum) 8
def cat1 (vs : List Value) : Bool := vs.all fun v => Nat.beq v.category 1
theorem cat1_of {vs : List Value} (h : cat1 vs = true) : ∀ v ∈ vs, v.category = 1 := fun v hv => Nat.eq_of_beq_eq_true (List.all_eq_true.mp h v hv)
theorem okD_of {y : MethodName} {n : Nat} (h : okD y n = true) : ∀ sig, parseMethodDescriptor y.desc = some sig → n = sig.parameters.length := by
  intro sig hs
  unfold okD at h
  simp only [decide_eq_true_eq] at h
  rw [hs] at h
  exact (Option.some.inj h).symm
section CALL
variable {M M' : MI} {X X' : AX} {p : Program} {l : Launch} {e : Env} {R : Room} {s : State} {m : MethodId} {args : Array Value} {below : List Frame} {meth : Method} {c : Code} {D : va_G} {xa : Nat → Nat} {A : Nat → Prop} {am0 : Nat → Nat} {n0 : Nat} {Q : State → Prop}
theorem pcU_of (cx : CxOk M X p R s m args meth c D xa A) (hX : ∀ k n f, X' k = some (n, f) → X k = some (n, f)) {am : Nat → Nat} {h : AH} {H : Heap} {locs : List Loc} {ws : va_W} (hH : HOk D s A am xa h H ws) (hS : va_S A s.heap H locs) {U : State} (hU : U.heap = H) (hW : s.WarmedH U.vm) : PcU X' D xa am h ws H.size U := by
  obtain ⟨hx, hb, hml, hts, hnw, hov, hown, hini, hA, hK, hZ, hT, -⟩ := cx
  have sub : ∀ q, va_A ws H.size q → A q := by
    intro q hq
    rcases hq with ⟨k, e1, hk⟩ | hq
    · exact hH.2.1.2 k (q, e1) hk
    · exact hA q (Nat.le_trans hS.1 hq)
  refine ⟨by rw [hU], ?_, va_K.moved hW.alike hK, nw_moved hW hnw, ao_moved hW.alike hov, fun k hk => ?_, fun k n f hk => ?_⟩
  · rw [hU]; exact (hH.moved hW.alike).weak fun _ _ _ _ => trivial
  · rw [hU]; exact (va_Z.moved hW.alike ((hZ k hk).kept hS.2.1)).narrow sub
  · rw [hU]; exact (va_T.moved hW.alike ((hT k n f (hX k n f hk)).kept hS.2.1)).narrow sub
theorem call_W (cx : CxOk M X p R s m args meth c D xa A) {am : Nat → Nat} {h : AH} {H : Heap} {locs : List Loc} {ws : va_W} (hH : HOk D s A am xa h H ws) (hS : va_S A s.heap H locs) {cc cs mc ms pc : Nat} {lsC : Array Slot} {st0 rest : List Value} {Φ : Option Value → AH → Prop} {a : Array Value}
    (hr : va_Run p l e R s m args below meth c H locs cc cs mc ms (F0 m pc lsC st0) rest (QcO D xa am h ws H.size Φ a) (va_A ws H.size))
    (kk : ∀ (rv : Option Value) (h' : AH) (am' : Nat → Nat) (H' : Heap) (locs' : List Loc) (ws' : va_W), Φ rv h' → (∀ k, (k < h.length ∨ h'.length ≤ k) → am' k = am k) → h.length ≤ h'.length → HOk D s A am' xa h' H' ws' → va_S A s.heap H' locs' → W p l e R s m args below meth c H' locs' (cc + mc) (cs + ms) Q (F0 m (pc + 3) lsC ((rv.map (cv am' xa)).toList ++ rest))) :
    W p l e R s m args below meth c H locs cc cs Q (F0 m pc lsC st0) := by
  obtain ⟨hx, hb, hml, hts, hnw, hov, hown, hini, hA, hK, hZ, hT, -⟩ := cx
  have sub : ∀ q, va_A ws H.size q → A q := by
    intro q hq
    rcases hq with ⟨k, e1, hk⟩ | hq
    · exact hH.2.1.2 k (q, e1) hk
    · exact hA q (Nat.le_trans hS.1 hq)
  intro T hT0 X0
  obtain ⟨v, st₀, t, T', L, h0, X', hL, e1, e2, ⟨⟨rv, h', am', ws', ho, hΦ, ham, hle, hH'⟩, hz, hk⟩, st⟩ := hr T hT0 X0
  cases ho
  rw [h0] at hz hk
  have hal : s.vm.Alike t.vm := by rw [← e2]; exact X'.warmed.alike
  obtain ⟨t2, a1, b1⟩ := kk rv h' am' T'.heap (locs ++ L) ws' hΦ ham hle (by rw [e1]; exact (hH'.moved (Vm.Alike.symm hal)).weak (fun k q _ hq => sub _ hq))
    ⟨Nat.le_trans hS.1 (by rw [e1]; exact hz), fun q h1 h2 => by rw [e1, hk q (Nat.lt_of_lt_of_le h1 hS.1) (fun z => h2 (sub q z))]; exact hS.2.1 q h1 h2, fun q hq => by
      rcases List.mem_append.mp hq with h9 | h9
      · exact hS.2.2 q h9
      · exact sub _ (hL q h9)⟩ T' rfl X'
  exact ⟨t2, st t2 a1, b1⟩
theorem goodM (h : okM M' = true) : GoodIn gw (wm M') := by
  unfold okM at h
  simp only [Bool.and_eq_true] at h
  intro w hw
  rcases List.mem_cons.mp hw with rfl | hw
  · exact gw_good _ (okw_in h.1)
  · exact gw_good w hw
theorem callB_my (cx : CxOk M X p R s m args meth c D xa A) {idx n : Nat} (hM : okM M' = true) (hR : okR M M' = true) (hl : okw (.methodLink (mo M) idx (my M')) = true) (hd : okD (my M') n = true) :
    CallB R s args (mo M) idx (my M') (mb M') (mL M') (mr M') (wm M') (rmM M') (mC M') (mS M') n := by
  obtain ⟨hx, hb, hml, hts, hnw, hov, hown, hini, hA, hK, hZ, hT, f1, f2, f3, f4, hlk⟩ := cx
  have g := goodM hM
  unfold okM at hM
  unfold okR at hR
  simp only [Bool.and_eq_true, decide_eq_true_eq] at hM hR
  have r1 := Nat.le_of_ble_eq_true hR.1
  have r2 := Nat.le_of_ble_eq_true hR.2
  exact ⟨rfl, rfl, Nat.le_trans r1 f1, Nat.le_trans r2 f2, pay_in hts g, List.mem_cons_self, hts _ (okw_in hM.1), hts _ (okw_in hM.2.1), ⟨hM.2.2.1, hM.2.2.2.1⟩, okD_of hd, hts _ (okw_in hl)⟩
theorem callN_my (cx : CxOk M X p R s m args meth c D xa A) {idx n : Nat} (hM : okM M' = true) (hR : okR M M' = true) (hl : Cond.methodLinkNest (mo M) idx (my M') "BargeBallast" ∈ nw) (hd : okD (my M') n = true) :
    va_CN R s args (mo M) idx (my M') "BargeBallast" (mb M') (mL M') (mr M') (wm M') (rmM M') (mC M') (mS M') n := by
  obtain ⟨hx, hb, hml, hts, hnw, hov, hown, hini, hA, hK, hZ, hT, f1, f2, f3, f4, hlk⟩ := cx
  have g := goodM hM
  unfold okM at hM
  unfold okR at hR
  simp only [Bool.and_eq_true, decide_eq_true_eq] at hM hR
  have r1 := Nat.le_of_ble_eq_true hR.1
  have r2 := Nat.le_of_ble_eq_true hR.2
  exact ⟨⟨rfl, rfl, Nat.le_trans r1 f1, Nat.le_trans r2 f2, pay_in hts g, List.mem_cons_self⟩, hts _ (okw_in hM.1), hts _ (okw_in hM.2.1), ⟨hM.2.2.1, hM.2.2.2.1⟩, okD_of hd, va_Nw.use rfl (hnw _ hl)⟩
theorem cat_sum {am : Nat → Nat} {rest : List Value} (h : catOk rest = true) : ((rest.map (cv am xa)).map fun v => v.category).sum ≤ 8 := by
  rw [List.map_map]
  have e : ((fun v : Value => v.category) ∘ cv am xa) = fun v => v.category := by funext v; exact cv_cat am xa v
  rw [e]
  exact Nat.le_of_ble_eq_true h
/-- what a call's rule asks of the five kinds of call: 0 virtual, 1 static, 2 static across the nest, 3 a constructor, 4 a constructor across the nest -/
def okK (k : Nat) (own : String) (idx : Nat) (M' : MI) (n : Nat) : Bool := match k with
  | 0 => okV own idx M' n
  | 1 => okSt own idx M' n
  | 2 => okSN own idx M' n
  | 3 => okIn own idx M' n
  | _ => okIN own idx M' n
/-- the instruction of a kind of call -/
def insK (k : Nat) (idx : Nat) : Instr := match k with
  | 0 => .invokevirtual idx
  | 1 => .invokestatic idx
  | 2 => .invokestatic idx
  | _ => .invokespecial idx
/-- the stack ahead of a call, the receiver first among the arguments -/
def stK (k : Nat) (av rest : List Value) : List Value := av.reverse ++ rest
/-- a call's receiver is an object of the callee's class, or there is none -/
def rcv0 (M' : MI) (h : AH) (o : Nat) : Bool := match nth h o with
  | some (.inr (.inr (ci, _))) => match nth vwCl ci with
    | some (C, _, _) => decide (C = (my M').cls)
    | none => false
  | _ => false
def rcv (k : Nat) (M' : MI) (h : AH) (av : List Value) : Bool := match k with
  | 0 => match av with
    | .ref o :: _ => rcv0 M' h o
    | _ => false
  | 1 => true
  | 2 => true
  | _ => match av with
    | .ref o :: _ => Nat.ble (o + 1) 1000
    | _ => false
def nAr (k : Nat) (av : List Value) : Nat := match k with
  | 1 => av.length
  | 2 => av.length
  | _ => av.length - 1
set_option maxHeartbeats 2000000 in
theorem run_my (cx : CxOk M X p R s m args meth c D xa A) (hX : ∀ k n f, X' k = some (n, f) → X k = some (n, f)) {am : Nat → Nat} {h : AH} {H : Heap} {locs : List Loc} {ws : va_W} (hH : HOk D s A am xa h H ws) (hS : va_S A s.heap H locs) {cc cs pc k idx : Nat} {lsC : Array Slot} {av rest : List Value} {Φ : Option Value → AH → Prop}
    (hd : decode (mb M) pc = .ok (insK k idx, 3)) (hok : okK k (mo M) idx M' (nAr k av) = true) (hM : okM M' = true) (hR : okR M M' = true) (hC : Ct M' X' av h Φ) (hcat : cat1 av = true) (hlen : Nat.ble av.length (mL M') = true) (hrest : catOk rest = true) (hrcv : rcv k M' h av = true) (hsz : lsC.size = mL M) (hcc : cc + mC M' ≤ mC M) (hcs : cs + mS M' ≤ mS M) :
    ∃ a : Array Value, va_Run p l e R s m args below meth c H locs cc cs (mC M') (mS M') (F0 m pc lsC ((stK k av rest).map (cv am xa))) (rest.map (cv am xa)) (QcO D xa am h ws H.size Φ a) (va_A ws H.size) := by
  have hx := cx.1
  have hb := cx.2.1
  have hml := cx.2.2.1
  have hts := cx.2.2.2.1
  have hown := cx.2.2.2.2.2.2.1
  have hK := cx.2.2.2.2.2.2.2.2.2.1
  have f3 : mC M ≤ R.cells := cx.2.2.2.2.2.2.2.2.2.2.2.2.2.2.1
  have f4 : mS M ≤ R.slots := cx.2.2.2.2.2.2.2.2.2.2.2.2.2.2.2.1
  have hpl : plainName (my M').cls = true := by
    unfold okM at hM
    simp only [Bool.and_eq_true] at hM
    exact hM.2.2.2.2
  have met := met_of hC (cat1_of hcat) (Nat.le_of_ble_eq_true hlen) hpl l D xa am ws H.size
  have fix : CallFix p m c (mb M) (mL M) s args gw (mo M) := ⟨hx, hb, hml, hown, hts⟩
  have hroom := lv_room (m := m) (pc := pc) (ls := lsC) (rest := (stK k av rest).map (cv am xa)) (cat_sum (xa := xa) (am := am) hrest)
  have hf : cc + mC M' ≤ R.cells ∧ cs + mS M' ≤ R.slots := ⟨Nat.le_trans hcc f3, Nat.le_trans hcs f4⟩
  have pre : ∀ U : State, U.heap = H → s.WarmedH U.vm → va_Pc (av.map (cv am xa)) (PcU X' D xa am h ws H.size) (av.map (cv am xa)).toArray U := fun U hU hW => ⟨rfl, pcU_of cx hX hH hS hU hW⟩
  match k, hd, hok, hrcv with
  | 0, hd, hok, hrcv =>
    simp only [okK, okV, Bool.and_eq_true] at hok
    match av, hrcv with
    | .ref o :: t, hrcv =>
      have hrcv : rcv0 M' h o = true := hrcv
      unfold rcv0 at hrcv
      split at hrcv
      · next ci fs hnt =>
        split at hrcv
        · next C T N hcl =>
          simp only [decide_eq_true_eq] at hrcv
          obtain ⟨hk1, e1, he1, he2⟩ := hH.at hnt
          obtain rfl : e1 = _ := he2
          have rc := va_recv hK hH.1 (nth_some hcl) he1
          dsimp only at rc
          rw [hrcv] at rc
          refine ⟨_, va_runV (As := t.map (cv am xa)) (b := am o) fix met ⟨callB_my cx hM hR hok.1 hok.2.2.2, hts _ (okw_in hok.2.1), hts _ (okw_in hok.2.2.1)⟩ ⟨blind, rc, fun U hU hW => ?_⟩ rfl (by simp [nAr]) hsz ?_ hroom hd hf⟩
          · have := pre U hU hW
            rw [List.map_cons, cv_ref am hk1] at this
            exact ⟨by rw [List.map_cons, cv_ref am hk1], this.2⟩
          · show (stK 0 (.ref o :: t) rest).map (cv am xa) = _
            simp [stK, cv_ref am hk1]
        · cases hrcv
      · cases hrcv
  | 1, hd, hok, hrcv =>
    simp only [okK, okSt, Bool.and_eq_true] at hok
    exact ⟨_, va_runS (As := av.map (cv am xa)) fix met ⟨callB_my cx hM hR hok.1 hok.2.2, hts _ (okw_in hok.2.1)⟩ ⟨blind, pre⟩ rfl (by simp [nAr]) hsz (by simp [stK]) hroom hd hf⟩
  | 2, hd, hok, hrcv =>
    simp only [okK, okSN, Bool.and_eq_true, decide_eq_true_eq] at hok
    exact ⟨_, va_runSN (As := av.map (cv am xa)) fix met ⟨callN_my cx hM hR hok.1 hok.2.2, hts _ (okw_in hok.2.1), trivial⟩ ⟨blind, pre⟩ rfl (by simp [nAr]) hsz (by simp [stK]) hroom hd hf⟩
  | 3, hd, hok, hrcv =>
    simp only [okK, okIn, Bool.and_eq_true, decide_eq_true_eq] at hok
    unfold rcv at hrcv
    match av, hrcv with
    | .ref o :: t, hrcv =>
      have hk1 : o < 1000 := Nat.lt_of_succ_le (Nat.le_of_ble_eq_true hrcv)
      have cb := callB_my (X := X) cx hM hR hok.1 hok.2.2.2.2
      rw [hok.2.2.2.1] at cb
      refine ⟨_, va_runI (As := t.map (cv am xa)) (b := am o) fix met ⟨cb, hok.2.2.1, hts _ (okw_in hok.2.1)⟩ ⟨blind, fun U hU hW => ?_⟩ rfl (by simp [nAr]) hsz ?_ hroom hd hf⟩
      · have := pre U hU hW
        rw [List.map_cons, cv_ref am hk1] at this
        exact ⟨by rw [List.map_cons, cv_ref am hk1], this.2⟩
      · simp [stK, cv_ref am hk1]
  | k + 4, hd, hok, hrcv =>
    simp only [okK, okIN, Bool.and_eq_true, decide_eq_true_eq] at hok
    unfold rcv at hrcv
    match av, hrcv with
    | .ref o :: t, hrcv =>
      have hk1 : o < 1000 := Nat.lt_of_succ_le (Nat.le_of_ble_eq_true hrcv)
      have cb := callN_my (X := X) cx hM hR hok.1 hok.2.2.2.2
      rw [hok.2.2.2.1] at cb
      refine ⟨_, va_runIN (As := t.map (cv am xa)) (b := am o) fix met ⟨cb, hok.2.2.1, hts _ (okw_in hok.2.1)⟩ ⟨blind, fun U hU hW => ?_⟩ rfl (by simp [nAr]) hsz ?_ hroom hd hf⟩
      · have := pre U hU hW
        rw [List.map_cons, cv_ref am hk1] at this
        exact ⟨by rw [List.map_cons, cv_ref am hk1], this.2⟩
      · simp [stK, cv_ref am hk1]
end CALL
theorem insK_len (k idx : Nat) : ilen (insK k idx) = 3 := by
  match k with
  | 0 => rfl
  | 1 => rfl
  | 2 => rfl
  | k + 3 => rfl
/-- a call of a method that makes nothing -/
theorem Rch.call {M M' : MI} {X X' : AX} {Ψ : AS → Prop} {Φ : Option Value → AH → Prop} {pc idx len nx a b : Nat} {v : Int32} {ls : AL} {st av rest : List Value} {h : AH} {cc cs : Nat} (k : Nat)
    (hC : Ct M' X' av h Φ) (hm : mk M pc = (insK k idx, len, nx, v, a, b)) (hst : st = stK k av rest) (hok : okK k (mo M) idx M' (nAr k av) = true) (hM : okM M' = true) (hR : okR M M' = true) (hX : ∀ k n f, X' k = some (n, f) → X k = some (n, f))
    (hcat : cat1 av = true) (hlen : Nat.ble av.length (mL M') = true) (hrest : catOk rest = true) (hrcv : rcv k M' h av = true) (hz : mC M' = 0 ∧ mS M' = 0) (hcc : cc ≤ mC M ∧ cs ≤ mS M) (hN : ∀ rv h', Φ rv h' → h'.length = h.length)
    (kk : ∀ rv h', Φ rv h' → Rch M X (nx, ls, rv.toList ++ rest, h', cc, cs) Ψ) : Rch M X (pc, ls, st, h, cc, cs) Ψ := by
  intro ok p l e R s m args below meth c D xa A am0 n0 Q cx f am H locs ws lsC hn0 ham hH hS hl hg
  dsimp only at hn0 ham hH hl hg ⊢
  subst hst
  obtain ⟨d, hnx, -⟩ := ok_at ok hm (by rw [insK_len]; decide)
  rw [insK_len] at d hnx
  subst hnx
  obtain ⟨a9, hr⟩ := run_my (l := l) (e := e) (below := below) (cc := cc) (cs := cs) cx hX hH hS d hok hM hR hC hcat hlen hrest hrcv hl.1 (by omega) (by omega)
  refine call_W cx hH hS hr fun rv h' am' H' locs' ws' hΦ ham' hle hH' hS' => ?_
  have hlen' := hN rv h' hΦ
  have e1 : am' = am := by
    funext k9
    exact ham' k9 (by omega)
  subst e1
  rw [hz.1, hz.2]
  have g := kk rv h' hΦ ok p l e R s m args below meth c D xa A am0 n0 Q cx f am' H' locs' ws' lsC (by dsimp only; omega) (by dsimp only; rw [hlen']; exact ham) hH' hS' hl hg
  dsimp only at g
  rw [List.map_append] at g
  rw [Option.toList_map]
  exact g
def clV (n : Nat) (v : Value) : Bool := match v with
  | .ref k => Nat.ble (k + 1) n || Nat.ble 1000 k
  | _ => true
theorem cv_cl {am am' xa : Nat → Nat} {n : Nat} (h : ∀ k, k < n → am' k = am k) {v : Value} (hv : clV n v = true) : cv am' xa v = cv am xa v := by
  cases v with
  | ref k =>
    unfold clV at hv
    simp only [Bool.or_eq_true] at hv
    by_cases hk : k < 1000
    · rcases hv with z | z
      · have := Nat.le_of_ble_eq_true z
        simp [cv, hk, h k (by omega)]
      · exact absurd (Nat.le_of_ble_eq_true z) (Nat.not_le.mpr hk)
    · simp [cv, hk]
  | _ => rfl
theorem cv_cls {am am' xa : Nat → Nat} {n : Nat} (h : ∀ k, k < n → am' k = am k) {vs : List Value} (hv : vs.all (clV n) = true) : vs.map (cv am' xa) = vs.map (cv am xa) :=
  List.map_congr_left fun v hm => cv_cl h (List.all_eq_true.mp hv v hm)
theorem lc_cls {am am' xa : Nat → Nat} {n : Nat} (h : ∀ k, k < n → am' k = am k) {ls : AL} (hv : ls.all (fun q => clV n q.2) = true) : lc am' xa ls = lc am xa ls :=
  List.map_congr_left fun q hm => by rw [cv_cl h (List.all_eq_true.mp hv q hm)]
/-- a call of a method that makes cells -/
theorem Rch.callG {M M' : MI} {X X' : AX} {Ψ : AS → Prop} {Φ : Option Value → AH → Prop} {pc idx len nx a b : Nat} {v : Int32} {ls : AL} {st av rest : List Value} {h : AH} {cc cs cc' cs' : Nat} (k : Nat)
    (hC : Ct M' X' av h Φ) (hm : mk M pc = (insK k idx, len, nx, v, a, b)) (hst : st = stK k av rest) (hok : okK k (mo M) idx M' (nAr k av) = true) (hM : okM M' = true) (hR : okR M M' = true) (hX : ∀ k n f, X' k = some (n, f) → X k = some (n, f))
    (hcat : cat1 av = true) (hlen : Nat.ble av.length (mL M') = true) (hrest : catOk rest = true) (hrcv : rcv k M' h av = true) (hc' : cc' = cc + mC M') (hs' : cs' = cs + mS M') (hcc : cc' ≤ mC M) (hcs : cs' ≤ mS M) (hcl : rest.all (clV h.length) = true) (hcl2 : ls.all (fun q => clV h.length q.2) = true)
    (kk : ∀ rv h', Φ rv h' → Rch M X (nx, ls, rv.toList ++ rest, h', cc', cs') Ψ) : Rch M X (pc, ls, st, h, cc, cs) Ψ := by
  intro ok p l e R s m args below meth c D xa A am0 n0 Q cx f am H locs ws lsC hn0 ham hH hS hl hg
  dsimp only at hn0 ham hH hl hg ⊢
  subst hst
  subst hc'
  subst hs'
  obtain ⟨d, hnx, -⟩ := ok_at ok hm (by rw [insK_len]; decide)
  rw [insK_len] at d hnx
  subst hnx
  obtain ⟨a9, hr⟩ := run_my (l := l) (e := e) (below := below) (cc := cc) (cs := cs) cx hX hH hS d hok hM hR hC hcat hlen hrest hrcv hl.1 hcc hcs
  refine call_W cx hH hS hr fun rv h' am' H' locs' ws' hΦ ham' hle hH' hS' => ?_
  have hag : ∀ k, k < h.length → am' k = am k := fun k hk => ham' k (Or.inl hk)
  have g := kk rv h' hΦ ok p l e R s m args below meth c D xa A am0 n0 Q cx f am' H' locs' ws' lsC (by dsimp only; omega) (by
    dsimp only
    intro k hk
    rcases hk with hk | hk
    · rw [ham' k (Or.inl (by omega))]; exact ham k (Or.inl hk)
    · rw [ham' k (Or.inr hk)]; exact ham k (Or.inr (by omega))) hH' hS' (by dsimp only; rw [lc_cls hag hcl2]; exact hl) hg
  dsimp only at g
  rw [List.map_append, cv_cls hag hcl] at g
  rw [Option.toList_map]
  exact g
end
section
/-! ===== rules: branches, cells by a reckoned index, divisions, switches, what is made, what the JDK does ===== -/
theorem Rch.i_eq {M : MI} {X : AX} {Ψ : AS → Prop} {pc len nx a b : Nat} {v : Int32} {ls : AL} {r : List Value} {h : AH} {cc cs : Nat} {x y : Int32} {off : Int} (hm : mk M pc = (.if_icmp .eq off, len, nx, v, a, b)) (kt : x = y → Rch M X (a, ls, r, h, cc, cs) Ψ) (kf : ¬ x = y → Rch M X (nx, ls, r, h, cc, cs) Ψ) : Rch M X (pc, ls, .int y :: .int x :: r, h, cc, cs) Ψ := by
  by_cases z : x = y
  · exact Rch.st1 (by simp only [step1, hm, cmpB, z, decide_true, Bool.not_true]; rfl) (kt z)
  · exact Rch.st1 (by simp only [step1, hm, cmpB, z, decide_false, Bool.not_false]; rfl) (kf z)
theorem Rch.z_eq {M : MI} {X : AX} {Ψ : AS → Prop} {pc len nx a b : Nat} {v : Int32} {ls : AL} {r : List Value} {h : AH} {cc cs : Nat} {x : Int32} {off : Int} (hm : mk M pc = (.ifCond .eq off, len, nx, v, a, b)) (kt : x = 0 → Rch M X (a, ls, r, h, cc, cs) Ψ) (kf : ¬ x = 0 → Rch M X (nx, ls, r, h, cc, cs) Ψ) : Rch M X (pc, ls, .int x :: r, h, cc, cs) Ψ := by
  by_cases z : x = 0
  · exact Rch.st1 (by simp only [step1, hm, cmpB, z, decide_true, Bool.not_true]; rfl) (kt z)
  · exact Rch.st1 (by simp only [step1, hm, cmpB, z, decide_false, Bool.not_false]; rfl) (kf z)
theorem Rch.i_ne {M : MI} {X : AX} {Ψ : AS → Prop} {pc len nx a b : Nat} {v : Int32} {ls : AL} {r : List Value} {h : AH} {cc cs : Nat} {x y : Int32} {off : Int} (hm : mk M pc = (.if_icmp .ne off, len, nx, v, a, b)) (kt : x = y → Rch M X (nx, ls, r, h, cc, cs) Ψ) (kf : ¬ x = y → Rch M X (a, ls, r, h, cc, cs) Ψ) : Rch M X (pc, ls, .int y :: .int x :: r, h, cc, cs) Ψ := by
  by_cases z : x = y
  · exact Rch.st1 (by simp only [step1, hm, cmpB, z, decide_true, Bool.not_true]; rfl) (kt z)
  · exact Rch.st1 (by simp only [step1, hm, cmpB, z, decide_false, Bool.not_false]; rfl) (kf z)
theorem Rch.z_ne {M : MI} {X : AX} {Ψ : AS → Prop} {pc len nx a b : Nat} {v : Int32} {ls : AL} {r : List Value} {h : AH} {cc cs : Nat} {x : Int32} {off : Int} (hm : mk M pc = (.ifCond .ne off, len, nx, v, a, b)) (kt : x = 0 → Rch M X (nx, ls, r, h, cc, cs) Ψ) (kf : ¬ x = 0 → Rch M X (a, ls, r, h, cc, cs) Ψ) : Rch M X (pc, ls, .int x :: r, h, cc, cs) Ψ := by
  by_cases z : x = 0
  · exact Rch.st1 (by simp only [step1, hm, cmpB, z, decide_true, Bool.not_true]; rfl) (kt z)
  · exact Rch.st1 (by simp only [step1, hm, cmpB, z, decide_false, Bool.not_false]; rfl) (kf z)
theorem Rch.i_lt {M : MI} {X : AX} {Ψ : AS → Prop} {pc len nx a b : Nat} {v : Int32} {ls : AL} {r : List Value} {h : AH} {cc cs : Nat} {x y : Int32} {off : Int} (hm : mk M pc = (.if_icmp .lt off, len, nx, v, a, b)) (kt : x < y → Rch M X (a, ls, r, h, cc, cs) Ψ) (kf : ¬ x < y → Rch M X (nx, ls, r, h, cc, cs) Ψ) : Rch M X (pc, ls, .int y :: .int x :: r, h, cc, cs) Ψ := by
  by_cases z : x < y
  · exact Rch.st1 (by simp only [step1, hm, cmpB, z, decide_true, Bool.not_true]; rfl) (kt z)
  · exact Rch.st1 (by simp only [step1, hm, cmpB, z, decide_false, Bool.not_false]; rfl) (kf z)
theorem Rch.z_lt {M : MI} {X : AX} {Ψ : AS → Prop} {pc len nx a b : Nat} {v : Int32} {ls : AL} {r : List Value} {h : AH} {cc cs : Nat} {x : Int32} {off : Int} (hm : mk M pc = (.ifCond .lt off, len, nx, v, a, b)) (kt : x < 0 → Rch M X (a, ls, r, h, cc, cs) Ψ) (kf : ¬ x < 0 → Rch M X (nx, ls, r, h, cc, cs) Ψ) : Rch M X (pc, ls, .int x :: r, h, cc, cs) Ψ := by
  by_cases z : x < 0
  · exact Rch.st1 (by simp only [step1, hm, cmpB, z, decide_true, Bool.not_true]; rfl) (kt z)
  · exact Rch.st1 (by simp only [step1, hm, cmpB, z, decide_false, Bool.not_false]; rfl) (kf z)
theorem Rch.i_ge {M : MI} {X : AX} {Ψ : AS → Prop} {pc len nx a b : Nat} {v : Int32} {ls : AL} {r : List Value} {h : AH} {cc cs : Nat} {x y : Int32} {off : Int} (hm : mk M pc = (.if_icmp .ge off, len, nx, v, a, b)) (kt : y ≤ x → Rch M X (a, ls, r, h, cc, cs) Ψ) (kf : ¬ y ≤ x → Rch M X (nx, ls, r, h, cc, cs) Ψ) : Rch M X (pc, ls, .int y :: .int x :: r, h, cc, cs) Ψ := by
  by_cases z : y ≤ x
  · exact Rch.st1 (by simp only [step1, hm, cmpB, z, decide_true, Bool.not_true]; rfl) (kt z)
  · exact Rch.st1 (by simp only [step1, hm, cmpB, z, decide_false, Bool.not_false]; rfl) (kf z)
theorem Rch.z_ge {M : MI} {X : AX} {Ψ : AS → Prop} {pc len nx a b : Nat} {v : Int32} {ls : AL} {r : List Value} {h : AH} {cc cs : Nat} {x : Int32} {off : Int} (hm : mk M pc = (.ifCond .ge off, len, nx, v, a, b)) (kt : 0 ≤ x → Rch M X (a, ls, r, h, cc, cs) Ψ) (kf : ¬ 0 ≤ x → Rch M X (nx, ls, r, h, cc, cs) Ψ) : Rch M X (pc, ls, .int x :: r, h, cc, cs) Ψ := by
  by_cases z : 0 ≤ x
  · exact Rch.st1 (by simp only [step1, hm, cmpB, z, decide_true, Bool.not_true]; rfl) (kt z)
  · exact Rch.st1 (by simp only [step1, hm, cmpB, z, decide_false, Bool.not_false]; rfl) (kf z)
theorem Rch.i_gt {M : MI} {X : AX} {Ψ : AS → Prop} {pc len nx a b : Nat} {v : Int32} {ls : AL} {r : List Value} {h : AH} {cc cs : Nat} {x y : Int32} {off : Int} (hm : mk M pc = (.if_icmp .gt off, len, nx, v, a, b)) (kt : y < x → Rch M X (a, ls, r, h, cc, cs) Ψ) (kf : ¬ y < x → Rch M X (nx, ls, r, h, cc, cs) Ψ) : Rch M X (pc, ls, .int y :: .int x :: r, h, cc, cs) Ψ := by
  by_cases z : y < x
  · exact Rch.st1 (by simp only [step1, hm, cmpB, z, decide_true, Bool.not_true]; rfl) (kt z)
  · exact Rch.st1 (by simp only [step1, hm, cmpB, z, decide_false, Bool.not_false]; rfl) (kf z)
theorem Rch.z_gt {M : MI} {X : AX} {Ψ : AS → Prop} {pc len nx a b : Nat} {v : Int32} {ls : AL} {r : List Value} {h : AH} {cc cs : Nat} {x : Int32} {off : Int} (hm : mk M pc = (.ifCond .gt off, len, nx, v, a, b)) (kt : 0 < x → Rch M X (a, ls, r, h, cc, cs) Ψ) (kf : ¬ 0 < x → Rch M X (nx, ls, r, h, cc, cs) Ψ) : Rch M X (pc, ls, .int x :: r, h, cc, cs) Ψ := by
  by_cases z : 0 < x
  · exact Rch.st1 (by simp only [step1, hm, cmpB, z, decide_true, Bool.not_true]; rfl) (kt z)
  · exact Rch.st1 (by simp only [step1, hm, cmpB, z, decide_false, Bool.not_false]; rfl) (kf z)
theorem Rch.i_le {M : MI} {X : AX} {Ψ : AS → Prop} {pc len nx a b : Nat} {v : Int32} {ls : AL} {r : List Value} {h : AH} {cc cs : Nat} {x y : Int32} {off : Int} (hm : mk M pc = (.if_icmp .le off, len, nx, v, a, b)) (kt : x ≤ y → Rch M X (a, ls, r, h, cc, cs) Ψ) (kf : ¬ x ≤ y → Rch M X (nx, ls, r, h, cc, cs) Ψ) : Rch M X (pc, ls, .int y :: .int x :: r, h, cc, cs) Ψ := by
  by_cases z : x ≤ y
  · exact Rch.st1 (by simp only [step1, hm, cmpB, z, decide_true, Bool.not_true]; rfl) (kt z)
  · exact Rch.st1 (by simp only [step1, hm, cmpB, z, decide_false, Bool.not_false]; rfl) (kf z)
theorem Rch.z_le {M : MI} {X : AX} {Ψ : AS → Prop} {pc len nx a b : Nat} {v : Int32} {ls : AL} {r : List Value} {h : AH} {cc cs : Nat} {x : Int32} {off : Int} (hm : mk M pc = (.ifCond .le off, len, nx, v, a, b)) (kt : x ≤ 0 → Rch M X (a, ls, r, h, cc, cs) Ψ) (kf : ¬ x ≤ 0 → Rch M X (nx, ls, r, h, cc, cs) Ψ) : Rch M X (pc, ls, .int x :: r, h, cc, cs) Ψ := by
  by_cases z : x ≤ 0
  · exact Rch.st1 (by simp only [step1, hm, cmpB, z, decide_true, Bool.not_true]; rfl) (kt z)
  · exact Rch.st1 (by simp only [step1, hm, cmpB, z, decide_false, Bool.not_false]; rfl) (kf z)
theorem clamp_nI {j : Nat} (h : j < 2 ^ 31) : (nI j).toNatClampNeg = j := Int32.toNatClampNeg_ofNat_of_lt h
theorem nI_nn {j : Nat} (h : j < 2 ^ 31) : ¬ nI j < 0 := by
  have e1 := Int32.toInt_ofNat_small h
  simp only [nI, Int32.lt_iff_toInt_lt, Int32.toInt_zero, e1]
  omega
theorem inB_nI {j n : Nat} (h : j < n) (hn : n < 2 ^ 31) : inB (nI j) n = true := by
  unfold inB
  rw [clamp_nI (by omega)]
  simp only [nI_nn (show j < 2 ^ 31 by omega), decide_false, Bool.not_false, Bool.true_and]
  exact Nat.ble_eq_true_of_le h
theorem Rch.ia {M : MI} {X : AX} {Ψ : AS → Prop} {pc len nx a b : Nat} {v : Int32} {ls : AL} {r : List Value} {h : AH} {cc cs : Nat} {o n j : Nat} {f : Nat → Int32} {i : Int32} (hm : mk M pc = (.iaload, len, nx, v, a, b)) (ho : nth h o = some (.inl (.int, n, f))) (ho2 : Nat.ble 1000 o = false) (hi : i = nI j) (hj : j < n) (hn : n < 2 ^ 31) (k : Rch M X (nx, ls, .int (f j) :: r, h, cc, cs) Ψ) : Rch M X (pc, ls, .int i :: .ref o :: r, h, cc, cs) Ψ := by
  subst hi
  refine Rch.st1 ?_ k
  simp only [step1, hm, ho, ho2, cond_false, inB_nI hj hn, cond_true, clamp_nI (show j < 2 ^ 31 by omega)]
theorem Rch.xa {M : MI} {X : AX} {Ψ : AS → Prop} {pc len nx a b : Nat} {v : Int32} {ls : AL} {r : List Value} {h : AH} {cc cs : Nat} {o n j : Nat} {f : Nat → Int32} {i : Int32} (hm : mk M pc = (.iaload, len, nx, v, a, b)) (ho2 : Nat.ble 1000 o = true) (ho : X (o - 1000) = some (n, f)) (hi : i = nI j) (hj : j < n) (hn : n < 2 ^ 31) (k : Rch M X (nx, ls, .int (f j) :: r, h, cc, cs) Ψ) : Rch M X (pc, ls, .int i :: .ref o :: r, h, cc, cs) Ψ := by
  subst hi
  refine Rch.st1 ?_ k
  simp only [step1, hm, ho, ho2, cond_true, inB_nI hj hn, clamp_nI (show j < 2 ^ 31 by omega)]
theorem Rch.ca {M : MI} {X : AX} {Ψ : AS → Prop} {pc len nx a b : Nat} {v : Int32} {ls : AL} {r : List Value} {h : AH} {cc cs : Nat} {o n j : Nat} {f : Nat → Int32} {i : Int32} (hm : mk M pc = (.caload, len, nx, v, a, b)) (ho : nth h o = some (.inl (.char, n, f))) (hi : i = nI j) (hj : j < n) (hn : n < 2 ^ 31) (k : Rch M X (nx, ls, .int (f j) :: r, h, cc, cs) Ψ) : Rch M X (pc, ls, .int i :: .ref o :: r, h, cc, cs) Ψ := by
  subst hi
  refine Rch.st1 ?_ k
  simp only [step1, hm, ho, inB_nI hj hn, cond_true, clamp_nI (show j < 2 ^ 31 by omega)]
theorem Rch.ias {M : MI} {X : AX} {Ψ : AS → Prop} {pc len nx a b : Nat} {v : Int32} {ls : AL} {r : List Value} {h : AH} {cc cs : Nat} {o n j : Nat} {f : Nat → Int32} {i x : Int32} (hm : mk M pc = (.iastore, len, nx, v, a, b)) (ho : nth h o = some (.inl (.int, n, f))) (hi : i = nI j) (hj : j < n) (hn : n < 2 ^ 31) (k : Rch M X (nx, ls, r, setN h o (.inl (.int, n, upd f j x)), cc, cs) Ψ) : Rch M X (pc, ls, .int x :: .int i :: .ref o :: r, h, cc, cs) Ψ := by
  subst hi
  refine Rch.st1 ?_ k
  simp only [step1, hm, ho, inB_nI hj hn, cond_true, clamp_nI (show j < 2 ^ 31 by omega)]
theorem Rch.cas {M : MI} {X : AX} {Ψ : AS → Prop} {pc len nx a b : Nat} {v : Int32} {ls : AL} {r : List Value} {h : AH} {cc cs : Nat} {o n j : Nat} {f : Nat → Int32} {i x : Int32} (hm : mk M pc = (.castore, len, nx, v, a, b)) (ho : nth h o = some (.inl (.char, n, f))) (hi : i = nI j) (hj : j < n) (hn : n < 2 ^ 31) (k : Rch M X (nx, ls, r, setN h o (.inl (.char, n, upd f j (vp_nar .char x))), cc, cs) Ψ) : Rch M X (pc, ls, .int x :: .int i :: .ref o :: r, h, cc, cs) Ψ := by
  subst hi
  refine Rch.st1 ?_ k
  simp only [step1, hm, ho, inB_nI hj hn, cond_true, clamp_nI (show j < 2 ^ 31 by omega)]
theorem Rch.div {M : MI} {X : AX} {Ψ : AS → Prop} {pc len nx a b : Nat} {v : Int32} {ls : AL} {r : List Value} {h : AH} {cc cs : Nat} {x y : Int32} (hm : mk M pc = (.idiv, len, nx, v, a, b)) (hy : ¬ y = 0) (k : Rch M X (nx, ls, .int (x / y) :: r, h, cc, cs) Ψ) : Rch M X (pc, ls, .int y :: .int x :: r, h, cc, cs) Ψ := by
  refine Rch.st1 ?_ k
  simp only [step1, hm, hy, decide_false, cond_false]
theorem Rch.wl {M : MI} {X : AX} {Ψ : AS → Prop} {pc : Nat} {ls ls' : AL} {st : List Value} {h : AH} {cc cs : Nat} (hs : ∀ q ∈ ls', q ∈ ls) (hn : (ls'.map Prod.fst).Nodup) (k : Rch M X (pc, ls', st, h, cc, cs) Ψ) : Rch M X (pc, ls, st, h, cc, cs) Ψ := by
  intro ok p l e R s m args below meth c D xa A am0 n0 Q cx f am H locs ws lsC hn0 ham hH hS hl hg
  refine k ok p l e R s m args below meth c D xa A am0 n0 Q cx f am H locs ws lsC hn0 ham hH hS ⟨hl.1, hl.2.1, fun q hq => ?_⟩ ⟨hn, fun q hq => hg.2 q (hs q hq)⟩
  obtain ⟨q0, hq0, rfl⟩ := List.mem_map.mp hq
  exact hl.2.2 _ (List.mem_map.mpr ⟨q0, hs q0 hq0, rfl⟩)
/-- where a switch goes -/
def swT (pc : Nat) (i : Instr) (x : Int32) : Option Int := match i with
  | .tableswitch d lo hi offs => if x.toInt < lo ∨ hi < x.toInt then some ((pc : Int) + d) else (offs[(x.toInt - lo).toNat]?).map fun o => (pc : Int) + o
  | .lookupswitch d ps => if (ps.toList.zip (ps.toList.drop 1)).all (fun (a, next) => a.1 < next.1) = true then some ((pc : Int) + Op.lookupswitch.offset ps.toList d x.toInt) else none
  | _ => none
theorem Rch.sw {M : MI} {X : AX} {Ψ : AS → Prop} {pc len nx a b : Nat} {v : Int32} {ls : AL} {r : List Value} {h : AH} {cc cs : Nat} {i : Instr} {x : Int32} {t : Nat} (hm : mk M pc = (i, len, nx, v, a, b)) (ht : swT pc i x = some (t : Int)) (k : Rch M X (t, ls, r, h, cc, cs) Ψ) : Rch M X (pc, ls, .int x :: r, h, cc, cs) Ψ := by
  intro ok p l e R s m args below meth c D xa A am0 n0 Q cx f am H locs ws lsC hn0 ham hH hS hl hg
  have g := k ok p l e R s m args below meth c D xa A am0 n0 Q cx f am H locs ws lsC hn0 ham hH hS hl hg
  dsimp only at g ⊢
  have hne : i ≠ .nop := fun e => by rw [e] at ht; cases ht
  obtain ⟨d, -⟩ := ok.at hm (nop_ne hne)
  dsimp only at d
  unfold swT at ht
  split at ht
  · next dd lo hi offs =>
    split at ht
    · next hc => exact lv_tableOut cx.1 cx.2.1 d hc (Option.some.inj ht) g
    · next hc =>
      have h1 : ¬ x.toInt < lo := fun z => hc (Or.inl z)
      have h2 : ¬ hi < x.toInt := fun z => hc (Or.inr z)
      cases ho : offs[(x.toInt - lo).toNat]? with
      | none => rw [ho] at ht; cases ht
      | some off =>
        rw [ho] at ht
        exact lv_tableIn cx.1 cx.2.1 d h1 h2 ho (Option.some.inj ht) g
  · next dd ps =>
    split at ht
    · next hp => exact lv_lookup cx.1 cx.2.1 d hp rfl (Option.some.inj ht) g
    · cases ht
  · cases ht
end
section
/-! ===== rules: new objects and arrays; what the JDK does ===== -/
def clO (n : Nat) (o : AO) : Bool := match o with
  | .inl _ => true
  | .inr (.inl (k, g)) => (List.range k).all fun i => Nat.ble (g i + 1) n
  | .inr (.inr (_, fs)) => fs.all (clV n)
def clH (h : AH) : Bool := h.all (clO h.length)
theorem co_cl {s : State} {am am' xa : Nat → Nat} {n : Nat} (h : ∀ k, k < n → am' k = am k) {o : AO} {e : va_E} (hc : clO n o = true) (ho : co s am xa o e) : co s am' xa o e := by
  match o, hc, ho with
  | .inl (ty, n, f), _, ho => exact ho
  | .inr (.inl (k, g)), hc, ⟨cA, h1, h2⟩ =>
    refine ⟨cA, ?_, h2⟩
    rw [h1]
    congr 7
    funext i
    by_cases hi : i < k
    · have h3 := List.all_eq_true.mp (show ((List.range k).all fun i => Nat.ble (g i + 1) n) = true from hc) i (List.mem_range.mpr hi)
      rw [if_pos hi, if_pos hi, h (g i) (Nat.lt_of_succ_le (Nat.le_of_ble_eq_true h3))]
    · rw [if_neg hi, if_neg hi]
  | .inr (.inr (ci, fs)), hc, ho =>
    show e = .inr (ci, fs.map (cv am' xa))
    rw [cv_cls h (show fs.all (clV n) = true from hc)]
    exact ho
theorem HOk.push {D : va_G} {s : State} {A : Nat → Prop} {am xa : Nat → Nat} {h : AH} {H H1 : Heap} {ws : va_W} (hH : HOk D s A am xa h H ws) (hcl : clH h = true) (hlt : Nat.ble (h.length + 1) 1000 = true) {q : Nat} {e : va_E} {o : AO} {am' : Nat → Nat} (ham : am' = fun k => if k = h.length then q else am k) (hP : va_P D vwCl (ws ++ [(q, e)]) H1) (hD : va_D A (ws ++ [(q, e)])) (ho : co s am' xa o e) : HOk D s A am' xa (h ++ [o]) H1 (ws ++ [(q, e)]) := by
  obtain ⟨-, -, h3, h4, h5⟩ := hH
  have hag : ∀ k, k < h.length → am' k = am k := fun k hk => by rw [ham]; exact if_neg (by omega)
  refine ⟨hP, hD, by simp [h3], by simpa using Nat.le_of_ble_eq_true hlt, fun k o' hk => ?_⟩
  by_cases hl : k < h.length
  · rw [List.getElem?_append_left hl] at hk
    rw [List.getElem?_append_left (by omega)]
    obtain ⟨e1, e2, e3⟩ := h5 k o' hk
    exact ⟨e1, by rw [e2, hag k hl], co_cl hag (List.all_eq_true.mp hcl o' (List.mem_of_getElem? hk)) e3⟩
  · rw [List.getElem?_append_right (by omega)] at hk
    have hz : k - h.length < 1 := (List.getElem?_eq_some_iff.mp hk).1
    have hk2 : k = h.length := by omega
    subst hk2
    rw [Nat.sub_self] at hk
    cases hk
    exact ⟨e, by rw [List.getElem?_append_right (by omega), h3, Nat.sub_self]; simp [ham], ho⟩
theorem Rch.new {M : MI} {X : AX} {Ψ : AS → Prop} {pc idx len nx a b N o cc' cs' : Nat} {v : Int32} {ls : AL} {st : List Value} {h : AH} {cc cs : Nat} {C : String} {T : u_T} {fs : List Value} (hm : mk M pc = (.new idx, len, nx, v, a, b)) (hc : vwCl[a]? = some (C, T, N)) (hfs : fs = (List.range N).map fun j => defaultValue (fty a j)) (ho : h.length = o) (hcl : clH h = true) (hlt : Nat.ble (h.length + 1) 1000 = true) (hcl2 : st.all (clV h.length) = true) (hcl3 : ls.all (fun q => clV h.length q.2) = true) (hc' : cc' = cc + 1) (hs' : cs' = cs + N) (hcc : cc' ≤ mC M) (hcs : cs' ≤ mS M) (hcf : fs.all (clV h.length) = true)
    (k : Rch M X (nx, ls, .ref o :: st, h ++ [.inr (.inr (a, fs))], cc', cs') Ψ) : Rch M X (pc, ls, st, h, cc, cs) Ψ := by
  subst ho
  subst hc'
  subst hs'
  intro ok p l e R s m args below meth c D xa A am0 n0 Q cx f am H locs ws lsC hn0 ham hH hS hl hg
  dsimp only at hn0 ham hH hl hg ⊢
  obtain ⟨d, hnx, o9⟩ := ok_at ok hm (by simp [ilen])
  simp only [okI, Bool.and_eq_true] at o9
  have hN := o9.2.2
  unfold okN at hN
  rw [hc] at hN
  simp only [Bool.and_eq_true] at hN
  obtain ⟨⟨w1, w2⟩, w3⟩ := hN
  have g := k ok p l e R s m args below meth c D xa A am0 n0 Q cx f
  obtain ⟨hx, hb, hml, hts, hnw, hov, hown, hini, hA, hK, hZ, hT, f1, f2, f3, f4, -⟩ := cx
  obtain ⟨i1, i2, i3⟩ := cl_in _ _ _ _ hc
  have hlt2 := Nat.le_of_ble_eq_true hlt
  have hdv : ∀ (am : Nat → Nat) (j : Nat), j < N → defaultValue (fty a j) = vp_V (fs.map (cv am xa)) j := by
    intro am j hj
    rw [hfs]
    simp only [vp_V, List.map_map, List.getD_eq_getElem?_getD, List.getElem?_map, List.getElem?_range hj, Option.map_some, Option.getD_some, Function.comp]
    cases fty a j <;> rfl
  refine va_new hx hb hts i1 (fty a) i2 hown (hts _ (okw_in w1)) (hts _ (okw_in w2)) (hts _ (okw_in w3)) hK hH.1 hH.2.1 hS hA hc (hdv am) (Nat.le_trans hcc f3) (Nat.le_trans hcs f4) d (fun q H1 hP1 hD1 hS1 => ?_)
  have hag : ∀ k9, k9 < h.length → (fun k => if k = h.length then q else am k) k9 = am k9 := fun k9 hk9 => if_neg (by omega)
  have g2 := g (fun k => if k = h.length then q else am k) H1 locs (ws ++ [(q, .inr (a, fs.map (cv am xa)))]) lsC (by simp; omega) (fun k9 hk9 => by
    dsimp only at hk9
    rw [List.length_append] at hk9
    show (if k9 = h.length then q else am k9) = am0 k9
    rw [if_neg (by simp at hk9; omega)]
    exact ham k9 (by simp at hk9; omega)) (hH.push hcl hlt rfl hP1 hD1 (by
      show _ = _
      rw [cv_cls hag hcf])) hS1 (by dsimp only; rw [lc_cls hag hcl3]; exact hl) hg
  dsimp only at g2
  rw [List.map_cons, cv_ref _ (by omega), cv_cls hag hcl2, if_pos rfl] at g2
  rw [hnx] at g2
  exact g2
theorem Rch.newa {M : MI} {X : AX} {Ψ : AS → Prop} {pc len nx a b N o cc' cs' : Nat} {v : Int32} {ls : AL} {st : List Value} {h : AH} {cc cs : Nat} {n : Int32} {ty : FieldType} {at9 : ArrayType} (hm : mk M pc = (.newarray at9, len, nx, v, a, b)) (hty : newarray.typeOf at9 = ty) (hdv : defaultValue ty = .int 0) (hw : okw (.arrayClass (newarray.typeOf at9)) = true) (hn : n = nI N) (hN : N < 2 ^ 31) (hby : N * componentBytes ty ≤ 536870912) (ho : h.length = o) (hcl : clH h = true) (hlt : Nat.ble (h.length + 1) 1000 = true) (hcl2 : st.all (clV h.length) = true) (hcl3 : ls.all (fun q => clV h.length q.2) = true) (hc' : cc' = cc + 1) (hs' : cs' = cs + N) (hcc : cc' ≤ mC M) (hcs : cs' ≤ mS M)
    (k : Rch M X (nx, ls, .ref o :: st, h ++ [.inl (ty, N, fun _ => 0)], cc', cs') Ψ) : Rch M X (pc, ls, .int n :: st, h, cc, cs) Ψ := by
  subst ho
  subst hc'
  subst hs'
  subst hn
  intro ok p l e R s m args below meth c D xa A am0 n0 Q cx f am H locs ws lsC hn0 ham hH hS hl hg
  dsimp only at hn0 ham hH hl hg ⊢
  obtain ⟨d, hnx, o9⟩ := ok_at ok hm (by simp [ilen])
  have g := k ok p l e R s m args below meth c D xa A am0 n0 Q cx f
  obtain ⟨hx, hb, hml, hts, hnw, hov, hown, hini, hA, hK, hZ, hT, f1, f2, f3, f4, -⟩ := cx
  have hlt2 := Nat.le_of_ble_eq_true hlt
  refine va_newa hx hb (hts _ (okw_in hw)) hty hK hH.1 hH.2.1 hS hA (a0 := (N, .inl fun _ => 0)) (fun cA => by rw [vp_cell_i, hdv]) (nI_nn hN) (clamp_nI hN) hby (Nat.le_trans hcc f3) (Nat.le_trans hcs f4) d (fun q cA H1 hK1 hP1 hD1 hS1 => ?_)
  have hag : ∀ k9, k9 < h.length → (fun k => if k = h.length then q else am k) k9 = am k9 := fun k9 hk9 => if_neg (by omega)
  have g2 := g (fun k => if k = h.length then q else am k) H1 locs (ws ++ [(q, .inl (cA, N, .inl fun _ => 0))]) lsC (by simp; omega) (fun k9 hk9 => by
    dsimp only at hk9
    rw [List.length_append] at hk9
    show (if k9 = h.length then q else am k9) = am0 k9
    rw [if_neg (by simp at hk9; omega)]
    exact ham k9 (by simp at hk9; omega)) (hH.push hcl hlt rfl hP1 hD1 ⟨cA, rfl, hK1.2 0 _ rfl⟩) hS1 (by dsimp only; rw [lc_cls hag hcl3]; exact hl) hg
  dsimp only at g2
  rw [List.map_cons, cv_ref _ (by omega), cv_cls hag hcl2, if_pos rfl] at g2
  rw [hnx] at g2
  exact g2
theorem Rch.oi {M : MI} {X : AX} {Ψ : AS → Prop} {pc idx len nx a b o : Nat} {v : Int32} {ls : AL} {st : List Value} {h : AH} {cc cs : Nat} (hm : mk M pc = (.invokespecial idx, len, nx, v, a, b)) (hw : okw (.methodLink (mo M) idx objectInit) = true) (hF : Nat.ble 1 (mF M) = true) (hW : Nat.ble 20 (mW M) = true) (hr : catOk st = true)
    (k : Rch M X (nx, ls, st, h, cc, cs) Ψ) : Rch M X (pc, ls, .ref o :: st, h, cc, cs) Ψ := by
  intro ok p l e R s m args below meth c D xa A am0 n0 Q cx f am H locs ws lsC hn0 ham hH hS hl hg
  dsimp only at hn0 ham hH hl hg ⊢
  obtain ⟨d, hnx, -⟩ := ok_at ok hm (by simp [ilen])
  have g := k ok p l e R s m args below meth c D xa A am0 n0 Q cx f am H locs ws lsC hn0 ham hH hS hl hg
  obtain ⟨hx, hb, hml, hts, hnw, hov, hown, hini, hA, hK, hZ, hT, f1, f2, f3, f4, -⟩ := cx
  rw [hnx] at g
  have h1 := Nat.le_of_ble_eq_true hF
  have h2 := Nat.le_of_ble_eq_true hW
  have h3 := cat_sum (am := am) (xa := xa) hr
  have h4 := lv_room (m := m) (pc := pc) (ls := lsC) (rest := (Value.ref o :: st).map (cv am xa)) h3
  exact W.objInit hx hb hown (hts _ (okw_in hw)) (hts _ (okw_in (by decide +kernel))) (hts _ (okw_in (by decide +kernel))) rfl (hl.1.trans hml.symm) (a := if o < 1000 then am o else xa (o - 1000)) rfl d (by omega) (by omega) g
theorem Rch.min {M : MI} {X : AX} {Ψ : AS → Prop} {pc idx len nx a b : Nat} {v x y : Int32} {ls : AL} {st : List Value} {h : AH} {cc cs : Nat} (hm : mk M pc = (.invokestatic idx, len, nx, v, a, b)) (hw : okw (.methodLink (mo M) idx Lib.Math.min.name) = true) (hF : Nat.ble 1 (mF M) = true) (hW : Nat.ble 21 (mW M) = true) (hr : catOk st = true) (hcc : cc ≤ mC M) (hcs : cs ≤ mS M)
    (k : Rch M X (nx, ls, .int (if y < x then y else x) :: st, h, cc, cs) Ψ) : Rch M X (pc, ls, .int y :: .int x :: st, h, cc, cs) Ψ := by
  intro ok p l e R s m args below meth c D xa A am0 n0 Q cx f am H locs ws lsC hn0 ham hH hS hl hg
  dsimp only at hn0 ham hH hl hg ⊢
  obtain ⟨d, hnx, -⟩ := ok_at ok hm (by simp [ilen])
  have g := k ok p l e R s m args below meth c D xa A am0 n0 Q cx f am H locs ws lsC hn0 ham hH hS hl hg
  obtain ⟨hx, hb, hml, hts, hnw, hov, hown, hini, hA, hK, hZ, hT, f1, f2, f3, f4, -⟩ := cx
  rw [hnx] at g
  have h1 := Nat.le_of_ble_eq_true hF
  have h2 := Nat.le_of_ble_eq_true hW
  have h3 := cat_sum (am := am) (xa := xa) hr
  exact va_mmin hx hb (hml.trans hl.1.symm) hown (hts _ (okw_in hw)) (hts _ (okw_in (by decide +kernel))) (hts _ (okw_in (by decide +kernel))) (hts _ (okw_in (by decide +kernel))) (by omega) (by omega) (by omega) (by omega) d g
theorem Rch.abs {M : MI} {X : AX} {Ψ : AS → Prop} {pc idx len nx a b : Nat} {v x : Int32} {ls : AL} {st : List Value} {h : AH} {cc cs : Nat} (hm : mk M pc = (.invokestatic idx, len, nx, v, a, b)) (hw : okw (.methodLink (mo M) idx Lib.Math.abs.name) = true) (hF : Nat.ble 1 (mF M) = true) (hW : Nat.ble 21 (mW M) = true) (hr : catOk st = true) (hcc : cc ≤ mC M) (hcs : cs ≤ mS M)
    (k : Rch M X (nx, ls, .int (if 0 ≤ x then x else 0 - x) :: st, h, cc, cs) Ψ) : Rch M X (pc, ls, .int x :: st, h, cc, cs) Ψ := by
  intro ok p l e R s m args below meth c D xa A am0 n0 Q cx f am H locs ws lsC hn0 ham hH hS hl hg
  dsimp only at hn0 ham hH hl hg ⊢
  obtain ⟨d, hnx, -⟩ := ok_at ok hm (by simp [ilen])
  have g := k ok p l e R s m args below meth c D xa A am0 n0 Q cx f am H locs ws lsC hn0 ham hH hS hl hg
  obtain ⟨hx, hb, hml, hts, hnw, hov, hown, hini, hA, hK, hZ, hT, f1, f2, f3, f4, -⟩ := cx
  rw [hnx] at g
  have h1 := Nat.le_of_ble_eq_true hF
  have h2 := Nat.le_of_ble_eq_true hW
  have h3 := cat_sum (am := am) (xa := xa) hr
  exact va_mabs hx hb (hml.trans hl.1.symm) hown (hts _ (okw_in hw)) (hts _ (okw_in (by decide +kernel))) (hts _ (okw_in (by decide +kernel))) (hts _ (okw_in (by decide +kernel))) (by omega) (by omega) (by omega) (by omega) d g
theorem Rch.copy {M : MI} {X : AX} {Ψ : AS → Prop} {pc idx len nx a b n0' n1' o0 o1 nn : Nat} {v z1 z2 z3 : Int32} {ls : AL} {st : List Value} {h : AH} {cc cs : Nat} {f0 f1 : Nat → Int32} (hm : mk M pc = (.invokestatic idx, len, nx, v, a, b)) (hw : okw (.methodLink (mo M) idx arraycopyName) = true) (hF : Nat.ble 1 (mF M) = true) (hW : Nat.ble (8 + (nativeFrameWords "java/lang/System" "arraycopy" 5 + 11)) (mW M) = true) (hr : catOk st = true)
    (h0 : nth h o0 = some (.inl (.int, n0', f0))) (h1 : nth h o1 = some (.inl (.int, n1', f1))) (hz1 : z1 = 0) (hz2 : z2 = 0) (hz3 : z3 = nI nn) (hnn : nn < 2 ^ 31) (hn0' : nn ≤ n0') (hn1' : nn ≤ n1')
    (k : Rch M X (nx, ls, st, setN h o1 (.inl (.int, n1', fun j => if j < nn then f0 j else f1 j)), cc, cs) Ψ) : Rch M X (pc, ls, .int z3 :: .int z2 :: .ref o1 :: .int z1 :: .ref o0 :: st, h, cc, cs) Ψ := by
  subst hz1
  subst hz2
  subst hz3
  intro ok p l e R s m args below meth c D xa A am0 n0 Q cx f am H locs ws lsC hn0 ham hH hS hl hg
  dsimp only at hn0 ham hH hl hg ⊢
  obtain ⟨d, hnx, -⟩ := ok_at ok hm (by simp [ilen])
  have g := k ok p l e R s m args below meth c D xa A am0 n0 Q cx f
  obtain ⟨hx, hb, hml, hts, hnw, hov, hown, hini, hA, hK, hZ, hT, r1, r2, r3, r4, -⟩ := cx
  rw [hnx] at g
  have g1 := Nat.le_of_ble_eq_true hF
  have g2 := Nat.le_of_ble_eq_true hW
  have g3 := cat_sum (am := am) (xa := xa) hr
  obtain ⟨k0, e0, he0, c0, rfl, t0⟩ := hH.at h0
  obtain ⟨k1, e1, he1, c1, rfl, t1⟩ := hH.at h1
  show W p l e R s m args below meth c H locs cc cs Q (F0 m pc lsC (.int (nI nn) :: .int 0 :: cv am xa (.ref o1) :: .int 0 :: cv am xa (.ref o0) :: st.map (cv am xa)))
  rw [cv_ref am k0, cv_ref am k1]
  have e9 : va_cpy f0 f1 (0 : Int32).toNatClampNeg (0 : Int32).toNatClampNeg (nI nn).toNatClampNeg = fun j => if j < nn then f0 j else f1 j := by
    funext j
    rw [clamp_nI hnn]
    show (if 0 ≤ j ∧ j < 0 + nn then f0 (0 + (j - 0)) else f1 j) = _
    simp
  refine va_copyi hx hb (hml.trans hl.1.symm) hown (hts _ (okw_in hw)) (hts _ (okw_in (by decide +kernel))) (hts _ (okw_in (by decide +kernel))) (hts _ (okw_in (by decide +kernel))) (tys := [(c0, .int), (c1, .int)]) ⟨hK.1, fun k9 q9 h9 => by
      match k9, h9 with
      | 0, h9 => cases h9; exact t0
      | 1, h9 => cases h9; exact t1
      | k9 + 2, h9 => simp at h9⟩ hH.1 hH.2.1 hS o0 o1 0 1 he0 he1 rfl rfl rfl (by decide) (by decide) (nI_nn hnn) ?_ ?_ (fun i hi => rfl) (by omega) (by omega) d ?_
  · rw [clamp_nI hnn]; show 0 + nn ≤ _; omega
  · rw [clamp_nI hnn]; show 0 + nn ≤ _; omega
  · rw [e9]
    intro H1 locs1 hP1 hD1 hS1
    exact g am H1 locs1 _ lsC (by simpa [setN_eq] using hn0) (by simpa [setN_eq] using ham) (hH.set hP1 hD1 ⟨c1, rfl, t1⟩) hS1 hl hg
end
