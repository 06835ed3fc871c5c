-- ===== PART A: goes FIRST, ahead of the names: the tables' words, and 'selects' of the private methods out of them =====
/-- a private method of a class that the tables say can be made, by its rows of tables_1 -/
def lw_okq (q : MethodName × Nat) : Prop := (q.1.cls ≠ "java/lang/invoke/MethodHandle" ∧ q.1.cls ≠ "java/lang/invoke/VarHandle") ∧ Cond.instantiable q.1.cls q.2 ∈ tables_1 ∧ Cond.privateMethod q.1 ∈ tables_1 ∧ Cond.instanceMethod q.1 ∈ tables_1
theorem lw_p0 : lw_okq (⟨"RootedDeltas", "tellOfTree", "(II)I"⟩, 10) := ⟨⟨by decide +kernel, by decide +kernel⟩, List.mem_of_getElem? (i := 12) (by decide +kernel), List.mem_of_getElem? (i := 215) (by decide +kernel), List.mem_of_getElem? (i := 216) (by decide +kernel)⟩
theorem lw_p1 : lw_okq (⟨"RootedDeltas$Reach", "spreadAlong", "(LRootedDeltas$State;I)V"⟩, 4) := ⟨⟨by decide +kernel, by decide +kernel⟩, List.mem_of_getElem? (i := 92) (by decide +kernel), List.mem_of_getElem? (i := 230) (by decide +kernel), List.mem_of_getElem? (i := 231) (by decide +kernel)⟩
theorem lw_p2 : lw_okq (⟨"RootedDeltas", "longestWay", "()I"⟩, 10) := ⟨⟨by decide +kernel, by decide +kernel⟩, List.mem_of_getElem? (i := 12) (by decide +kernel), List.mem_of_getElem? (i := 300) (by decide +kernel), List.mem_of_getElem? (i := 301) (by decide +kernel)⟩
theorem lw_p3 : lw_okq (⟨"RootedDeltas", "beginAct", "()V"⟩, 10) := ⟨⟨by decide +kernel, by decide +kernel⟩, List.mem_of_getElem? (i := 12) (by decide +kernel), List.mem_of_getElem? (i := 336) (by decide +kernel), List.mem_of_getElem? (i := 337) (by decide +kernel)⟩
theorem lw_p4 : lw_okq (⟨"RootedDeltas", "tryMake", "(III)I"⟩, 10) := ⟨⟨by decide +kernel, by decide +kernel⟩, List.mem_of_getElem? (i := 12) (by decide +kernel), List.mem_of_getElem? (i := 353) (by decide +kernel), List.mem_of_getElem? (i := 354) (by decide +kernel)⟩
theorem lw_p5 : lw_okq (⟨"RootedDeltas", "endAct", "(I)I"⟩, 10) := ⟨⟨by decide +kernel, by decide +kernel⟩, List.mem_of_getElem? (i := 12) (by decide +kernel), List.mem_of_getElem? (i := 382) (by decide +kernel), List.mem_of_getElem? (i := 383) (by decide +kernel)⟩
theorem lw_p6 : lw_okq (⟨"RootedDeltas$History", "dropOldest", "()V"⟩, 2) := ⟨⟨by decide +kernel, by decide +kernel⟩, List.mem_of_getElem? (i := 75) (by decide +kernel), List.mem_of_getElem? (i := 390) (by decide +kernel), List.mem_of_getElem? (i := 391) (by decide +kernel)⟩
theorem lw_p7 : lw_okq (⟨"RootedDeltas$History", "stateAt", "(I)LRootedDeltas$State;"⟩, 2) := ⟨⟨by decide +kernel, by decide +kernel⟩, List.mem_of_getElem? (i := 75) (by decide +kernel), List.mem_of_getElem? (i := 394) (by decide +kernel), List.mem_of_getElem? (i := 395) (by decide +kernel)⟩
theorem lw_p8 : lw_okq (⟨"RootedDeltas", "tryMix", "(III)I"⟩, 10) := ⟨⟨by decide +kernel, by decide +kernel⟩, List.mem_of_getElem? (i := 12) (by decide +kernel), List.mem_of_getElem? (i := 403) (by decide +kernel), List.mem_of_getElem? (i := 404) (by decide +kernel)⟩
theorem lw_p9 : lw_okq (⟨"RootedDeltas", "tryRoot", "(I)I"⟩, 10) := ⟨⟨by decide +kernel, by decide +kernel⟩, List.mem_of_getElem? (i := 12) (by decide +kernel), List.mem_of_getElem? (i := 431) (by decide +kernel), List.mem_of_getElem? (i := 432) (by decide +kernel)⟩
theorem lw_p10 : lw_okq (⟨"RootedDeltas", "giveRoot", "(II)V"⟩, 10) := ⟨⟨by decide +kernel, by decide +kernel⟩, List.mem_of_getElem? (i := 12) (by decide +kernel), List.mem_of_getElem? (i := 445) (by decide +kernel), List.mem_of_getElem? (i := 446) (by decide +kernel)⟩
theorem lw_p11 : lw_okq (⟨"RootedDeltas", "tryJoin", "(I)I"⟩, 10) := ⟨⟨by decide +kernel, by decide +kernel⟩, List.mem_of_getElem? (i := 12) (by decide +kernel), List.mem_of_getElem? (i := 453) (by decide +kernel), List.mem_of_getElem? (i := 454) (by decide +kernel)⟩
theorem lw_p12 : lw_okq (⟨"RootedDeltas", "tryAsk", "(I)I"⟩, 10) := ⟨⟨by decide +kernel, by decide +kernel⟩, List.mem_of_getElem? (i := 12) (by decide +kernel), List.mem_of_getElem? (i := 467) (by decide +kernel), List.mem_of_getElem? (i := 468) (by decide +kernel)⟩
theorem lw_p13 : lw_okq (⟨"RootedDeltas", "rulePrefers", "(II)Z"⟩, 10) := ⟨⟨by decide +kernel, by decide +kernel⟩, List.mem_of_getElem? (i := 12) (by decide +kernel), List.mem_of_getElem? (i := 483) (by decide +kernel), List.mem_of_getElem? (i := 484) (by decide +kernel)⟩
theorem lw_p14 : lw_okq (⟨"RootedDeltas", "costFrom", "(I)I"⟩, 10) := ⟨⟨by decide +kernel, by decide +kernel⟩, List.mem_of_getElem? (i := 12) (by decide +kernel), List.mem_of_getElem? (i := 520) (by decide +kernel), List.mem_of_getElem? (i := 521) (by decide +kernel)⟩
def lw_privs_1 : List (MethodName × Nat) := [(⟨"RootedDeltas", "tellOfTree", "(II)I"⟩, 10), (⟨"RootedDeltas$Reach", "spreadAlong", "(LRootedDeltas$State;I)V"⟩, 4), (⟨"RootedDeltas", "longestWay", "()I"⟩, 10), (⟨"RootedDeltas", "beginAct", "()V"⟩, 10), (⟨"RootedDeltas", "tryMake", "(III)I"⟩, 10), (⟨"RootedDeltas", "endAct", "(I)I"⟩, 10), (⟨"RootedDeltas$History", "dropOldest", "()V"⟩, 2), (⟨"RootedDeltas$History", "stateAt", "(I)LRootedDeltas$State;"⟩, 2), (⟨"RootedDeltas", "tryMix", "(III)I"⟩, 10), (⟨"RootedDeltas", "tryRoot", "(I)I"⟩, 10), (⟨"RootedDeltas", "giveRoot", "(II)V"⟩, 10), (⟨"RootedDeltas", "tryJoin", "(I)I"⟩, 10), (⟨"RootedDeltas", "tryAsk", "(I)I"⟩, 10), (⟨"RootedDeltas", "rulePrefers", "(II)Z"⟩, 10), (⟨"RootedDeltas", "costFrom", "(I)I"⟩, 10)]
theorem lw_r1 : ∀ q ∈ lw_privs_1, lw_okq q := List.forall_mem_cons.mpr ⟨lw_p0, List.forall_mem_cons.mpr ⟨lw_p1, List.forall_mem_cons.mpr ⟨lw_p2, List.forall_mem_cons.mpr ⟨lw_p3, List.forall_mem_cons.mpr ⟨lw_p4, List.forall_mem_cons.mpr ⟨lw_p5, List.forall_mem_cons.mpr ⟨lw_p6, List.forall_mem_cons.mpr ⟨lw_p7, List.forall_mem_cons.mpr ⟨lw_p8, List.forall_mem_cons.mpr ⟨lw_p9, List.forall_mem_cons.mpr ⟨lw_p10, List.forall_mem_cons.mpr ⟨lw_p11, List.forall_mem_cons.mpr ⟨lw_p12, List.forall_mem_cons.mpr ⟨lw_p13, List.forall_mem_cons.mpr ⟨lw_p14, fun _ h => absurd h List.not_mem_nil⟩⟩⟩⟩⟩⟩⟩⟩⟩⟩⟩⟩⟩⟩⟩
def lw_privs : List (MethodName × Nat) := lw_privs_1
def lw_tbl : List Cond := k2_sels lw_privs ++ tables_1
theorem lw_privs_ok : ∀ q ∈ lw_privs, lw_okq q := lw_r1
def RX0 : String := "RootedDeltas$History"
def TX0 : u_T := fun k => match k with
  | 0 => ("RootedDeltas$History", "states", "[LRootedDeltas$State;", true)
  | _ => ("RootedDeltas$History", "size", "I", false)
def tyX0 : Nat → FieldType := fun k => match k with
  | 0 => .array (.object "RootedDeltas$State")
  | _ => .int
abbrev wsX00 : List Cond := u_ws RX0 TX0 2
theorem nmX0 : ∀ a, a < 2 → ∀ b, b < 2 → a ≠ b → (TX0 a).2.1 ≠ (TX0 b).2.1 := by decide +kernel
theorem tyX0_ok : ∀ k, k < 2 → parseFieldDescriptor (TX0 k).2.2.1 = some (tyX0 k) := by decide +kernel
abbrev cX0_init : ByteArray := prog_2_method_1_code
def yX0_init : MethodName := ⟨RX0, "<init>", "()V"⟩
abbrev cX0_record : ByteArray := prog_2_method_2_code
def yX0_record : MethodName := ⟨RX0, "record", "(LRootedDeltas$State;)V"⟩
abbrev cX0_takeLatest : ByteArray := prog_2_method_3_code
def yX0_takeLatest : MethodName := ⟨RX0, "takeLatest", "(LRootedDeltas$State;)Z"⟩
abbrev cX0_stateAt : ByteArray := prog_2_method_4_code
def yX0_stateAt : MethodName := ⟨RX0, "stateAt", "(I)LRootedDeltas$State;"⟩
abbrev cX0_dropOldest : ByteArray := prog_2_method_5_code
def yX0_dropOldest : MethodName := ⟨RX0, "dropOldest", "()V"⟩
def RX1 : String := "RootedDeltas$Orders"
def TX1 : u_T := fun k => match k with
  | 0 => ("RootedDeltas$Orders", "text", "[C", true)
  | 1 => ("RootedDeltas$Orders", "length", "I", false)
  | 2 => ("RootedDeltas$Orders", "place", "I", false)
  | 3 => ("RootedDeltas$Orders", "size", "I", false)
  | 4 => ("RootedDeltas$Orders", "words", "[I", true)
  | 5 => ("RootedDeltas$Orders", "first", "[I", true)
  | 6 => ("RootedDeltas$Orders", "second", "[I", true)
  | _ => ("RootedDeltas$Orders", "third", "[I", true)
def tyX1 : Nat → FieldType := fun k => match k with
  | 0 => .array .char
  | 1 => .int
  | 2 => .int
  | 3 => .int
  | 4 => .array .int
  | 5 => .array .int
  | 6 => .array .int
  | _ => .array .int
abbrev wsX10 : List Cond := u_ws RX1 TX1 8
theorem nmX1 : ∀ a, a < 8 → ∀ b, b < 8 → a ≠ b → (TX1 a).2.1 ≠ (TX1 b).2.1 := by decide +kernel
theorem tyX1_ok : ∀ k, k < 8 → parseFieldDescriptor (TX1 k).2.2.1 = some (tyX1 k) := by decide +kernel
abbrev cX1_init : ByteArray := prog_3_method_1_code
def yX1_init : MethodName := ⟨RX1, "<init>", "()V"⟩
def RX2 : String := "RootedDeltas$Reach"
def TX2 : u_T := fun k => match k with
  | 0 => ("RootedDeltas$Reach", "reached", "I", false)
  | 1 => ("RootedDeltas$Reach", "steps", "[I", true)
  | 2 => ("RootedDeltas$Reach", "cells", "[I", true)
  | _ => ("RootedDeltas$Reach", "before", "[I", true)
def tyX2 : Nat → FieldType := fun k => match k with
  | 0 => .int
  | 1 => .array .int
  | 2 => .array .int
  | _ => .array .int
abbrev wsX20 : List Cond := u_ws RX2 TX2 4
theorem nmX2 : ∀ a, a < 4 → ∀ b, b < 4 → a ≠ b → (TX2 a).2.1 ≠ (TX2 b).2.1 := by decide +kernel
theorem tyX2_ok : ∀ k, k < 4 → parseFieldDescriptor (TX2 k).2.2.1 = some (tyX2 k) := by decide +kernel
abbrev cX2_init : ByteArray := prog_4_method_1_code
def yX2_init : MethodName := ⟨RX2, "<init>", "()V"⟩
abbrev cX2_spread : ByteArray := prog_4_method_2_code
def yX2_spread : MethodName := ⟨RX2, "spread", "(LRootedDeltas$State;I)V"⟩
abbrev cX2_spreadAlong : ByteArray := prog_4_method_3_code
def yX2_spreadAlong : MethodName := ⟨RX2, "spreadAlong", "(LRootedDeltas$State;I)V"⟩
abbrev cX2_rootReached : ByteArray := prog_4_method_4_code
def yX2_rootReached : MethodName := ⟨RX2, "rootReached", "(LRootedDeltas$State;)I"⟩
abbrev cX2_stepsTo : ByteArray := prog_4_method_5_code
def yX2_stepsTo : MethodName := ⟨RX2, "stepsTo", "(I)I"⟩
abbrev cX2_cellsTo : ByteArray := prog_4_method_6_code
def yX2_cellsTo : MethodName := ⟨RX2, "cellsTo", "(I)I"⟩
abbrev cX2_towardsStart : ByteArray := prog_4_method_7_code
def yX2_towardsStart : MethodName := ⟨RX2, "towardsStart", "(II)I"⟩
abbrev cX2_farthest : ByteArray := prog_4_method_8_code
def yX2_farthest : MethodName := ⟨RX2, "farthest", "()I"⟩
def RX3 : String := "RootedDeltas$Rows"
def TX3 : u_T := fun k => match k with
  | _ => ("", "", "", false)
def tyX3 : Nat → FieldType := fun k => match k with
  | _ => .int
abbrev wsX30 : List Cond := u_ws RX3 TX3 0
theorem nmX3 : ∀ a, a < 0 → ∀ b, b < 0 → a ≠ b → (TX3 a).2.1 ≠ (TX3 b).2.1 := by decide +kernel
theorem tyX3_ok : ∀ k, k < 0 → parseFieldDescriptor (TX3 k).2.2.1 = some (tyX3 k) := by decide +kernel
abbrev cX3_at : ByteArray := prog_5_method_2_code
def yX3_at : MethodName := ⟨RX3, "at", "([II)I"⟩
abbrev cX3_put : ByteArray := prog_5_method_3_code
def yX3_put : MethodName := ⟨RX3, "put", "([III)V"⟩
abbrev cX3_copy : ByteArray := prog_5_method_4_code
def yX3_copy : MethodName := ⟨RX3, "copy", "([I[I)V"⟩
def RX4 : String := "RootedDeltas$Sets"
def TX4 : u_T := fun k => match k with
  | _ => ("", "", "", false)
def tyX4 : Nat → FieldType := fun k => match k with
  | _ => .int
abbrev wsX40 : List Cond := u_ws RX4 TX4 0
theorem nmX4 : ∀ a, a < 0 → ∀ b, b < 0 → a ≠ b → (TX4 a).2.1 ≠ (TX4 b).2.1 := by decide +kernel
theorem tyX4_ok : ∀ k, k < 0 → parseFieldDescriptor (TX4 k).2.2.1 = some (tyX4 k) := by decide +kernel
abbrev cX4_of : ByteArray := prog_6_method_2_code
def yX4_of : MethodName := ⟨RX4, "of", "(I)I"⟩
abbrev cX4_isIn : ByteArray := prog_6_method_3_code
def yX4_isIn : MethodName := ⟨RX4, "isIn", "(II)Z"⟩
def RX5 : String := "RootedDeltas$State"
def TX5 : u_T := fun k => match k with
  | 0 => ("RootedDeltas$State", "versions", "I", false)
  | 1 => ("RootedDeltas$State", "kept", "I", false)
  | 2 => ("RootedDeltas$State", "roots", "I", false)
  | 3 => ("RootedDeltas$State", "source", "[I", true)
  | 4 => ("RootedDeltas$State", "difference", "[I", true)
  | 5 => ("RootedDeltas$State", "asked", "[I", true)
  | 6 => ("RootedDeltas$State", "numbers", "[I", true)
  | 7 => ("RootedDeltas$State", "rule", "I", false)
  | 8 => ("RootedDeltas$State", "mostSteps", "I", false)
  | 9 => ("RootedDeltas$State", "askings", "I", false)
  | 10 => ("RootedDeltas$State", "costs", "I", false)
  | 11 => ("RootedDeltas$State", "rootChanges", "I", false)
  | _ => ("RootedDeltas$State", "wayCuts", "I", false)
def tyX5 : Nat → FieldType := fun k => match k with
  | 0 => .int
  | 1 => .int
  | 2 => .int
  | 3 => .array .int
  | 4 => .array .int
  | 5 => .array .int
  | 6 => .array .int
  | 7 => .int
  | 8 => .int
  | 9 => .int
  | 10 => .int
  | 11 => .int
  | _ => .int
abbrev wsX50 : List Cond := u_ws RX5 TX5 13
theorem nmX5 : ∀ a, a < 13 → ∀ b, b < 13 → a ≠ b → (TX5 a).2.1 ≠ (TX5 b).2.1 := by decide +kernel
theorem tyX5_ok : ∀ k, k < 13 → parseFieldDescriptor (TX5 k).2.2.1 = some (tyX5 k) := by decide +kernel
abbrev cX5_init : ByteArray := prog_7_method_1_code
def yX5_init : MethodName := ⟨RX5, "<init>", "()V"⟩
abbrev cX5_copyFrom : ByteArray := prog_7_method_2_code
def yX5_copyFrom : MethodName := ⟨RX5, "copyFrom", "(LRootedDeltas$State;)V"⟩
abbrev cX5_has : ByteArray := prog_7_method_3_code
def yX5_has : MethodName := ⟨RX5, "has", "(I)Z"⟩
abbrev cX5_isKept : ByteArray := prog_7_method_4_code
def yX5_isKept : MethodName := ⟨RX5, "isKept", "(I)Z"⟩
abbrev cX5_isRoot : ByteArray := prog_7_method_5_code
def yX5_isRoot : MethodName := ⟨RX5, "isRoot", "(I)Z"⟩
abbrev cX5_sourceOf : ByteArray := prog_7_method_6_code
def yX5_sourceOf : MethodName := ⟨RX5, "sourceOf", "(I)I"⟩
abbrev cX5_differenceOf : ByteArray := prog_7_method_7_code
def yX5_differenceOf : MethodName := ⟨RX5, "differenceOf", "(I)I"⟩
abbrev cX5_askedFor : ByteArray := prog_7_method_8_code
def yX5_askedFor : MethodName := ⟨RX5, "askedFor", "(I)I"⟩
abbrev cX5_numberIn : ByteArray := prog_7_method_9_code
def yX5_numberIn : MethodName := ⟨RX5, "numberIn", "(II)I"⟩
abbrev cX5_putNumber : ByteArray := prog_7_method_10_code
def yX5_putNumber : MethodName := ⟨RX5, "putNumber", "(III)V"⟩
abbrev cX5_copyCells : ByteArray := prog_7_method_11_code
def yX5_copyCells : MethodName := ⟨RX5, "copyCells", "(III)V"⟩
abbrev cX5_unlikeCells : ByteArray := prog_7_method_12_code
def yX5_unlikeCells : MethodName := ⟨RX5, "unlikeCells", "(II)I"⟩
abbrev cX5_hang : ByteArray := prog_7_method_13_code
def yX5_hang : MethodName := ⟨RX5, "hang", "(II)V"⟩
abbrev cX5_drop : ByteArray := prog_7_method_14_code
def yX5_drop : MethodName := ⟨RX5, "drop", "(I)V"⟩
abbrev cX5_keepDifference : ByteArray := prog_7_method_15_code
def yX5_keepDifference : MethodName := ⟨RX5, "keepDifference", "(I)V"⟩
abbrev cX5_cutDifference : ByteArray := prog_7_method_16_code
def yX5_cutDifference : MethodName := ⟨RX5, "cutDifference", "(I)V"⟩
abbrev cX5_cutBetween : ByteArray := prog_7_method_17_code
def yX5_cutBetween : MethodName := ⟨RX5, "cutBetween", "(II)V"⟩
abbrev cX5_addRoot : ByteArray := prog_7_method_18_code
def yX5_addRoot : MethodName := ⟨RX5, "addRoot", "(I)V"⟩
abbrev cX5_dropRoot : ByteArray := prog_7_method_19_code
def yX5_dropRoot : MethodName := ⟨RX5, "dropRoot", "(I)V"⟩
abbrev cX5_moveRoot : ByteArray := prog_7_method_20_code
def yX5_moveRoot : MethodName := ⟨RX5, "moveRoot", "(II)V"⟩
abbrev cX5_noteAsking : ByteArray := prog_7_method_21_code
def yX5_noteAsking : MethodName := ⟨RX5, "noteAsking", "(II)V"⟩
abbrev cX5_lowestFree : ByteArray := prog_7_method_22_code
def yX5_lowestFree : MethodName := ⟨RX5, "lowestFree", "()I"⟩
abbrev cX5_howMany : ByteArray := prog_7_method_23_code
def yX5_howMany : MethodName := ⟨RX5, "howMany", "()I"⟩
abbrev cX5_trees : ByteArray := prog_7_method_24_code
def yX5_trees : MethodName := ⟨RX5, "trees", "()I"⟩
abbrev cX5_cuts : ByteArray := prog_7_method_25_code
def yX5_cuts : MethodName := ⟨RX5, "cuts", "()I"⟩
abbrev cX5_madeOf : ByteArray := prog_7_method_26_code
def yX5_madeOf : MethodName := ⟨RX5, "madeOf", "(I)I"⟩
abbrev cX5_ancestors : ByteArray := prog_7_method_27_code
def yX5_ancestors : MethodName := ⟨RX5, "ancestors", "(I)I"⟩
abbrev cX5_roomOf : ByteArray := prog_7_method_28_code
def yX5_roomOf : MethodName := ⟨RX5, "roomOf", "(I)I"⟩
abbrev cX5_room : ByteArray := prog_7_method_29_code
def yX5_room : MethodName := ⟨RX5, "room", "()I"⟩
abbrev cX5_neverAsked : ByteArray := prog_7_method_30_code
def yX5_neverAsked : MethodName := ⟨RX5, "neverAsked", "()I"⟩
abbrev cX5_unlikeRows : ByteArray := prog_7_method_31_code
def yX5_unlikeRows : MethodName := ⟨RX5, "unlikeRows", "()I"⟩
abbrev cX5_hasRowBelow : ByteArray := prog_7_method_32_code
def yX5_hasRowBelow : MethodName := ⟨RX5, "hasRowBelow", "(I)Z"⟩
def RX6 : String := "RootedDeltas"
def TX6 : u_T := fun k => match k with
  | 0 => ("RootedDeltas", "now", "LRootedDeltas$State;", true)
  | 1 => ("RootedDeltas", "before", "LRootedDeltas$State;", true)
  | 2 => ("RootedDeltas", "snapshot", "LRootedDeltas$State;", true)
  | 3 => ("RootedDeltas", "hasSnapshot", "Z", false)
  | 4 => ("RootedDeltas", "history", "LRootedDeltas$History;", true)
  | 5 => ("RootedDeltas", "reach", "LRootedDeltas$Reach;", true)
  | 6 => ("RootedDeltas", "orders", "LRootedDeltas$Orders;", true)
  | 7 => ("RootedDeltas", "hasStopped", "Z", false)
  | 8 => ("RootedDeltas", "stoppedOrder", "I", false)
  | _ => ("RootedDeltas", "stoppedError", "I", false)
def tyX6 : Nat → FieldType := fun k => match k with
  | 0 => .object "RootedDeltas$State"
  | 1 => .object "RootedDeltas$State"
  | 2 => .object "RootedDeltas$State"
  | 3 => .boolean
  | 4 => .object "RootedDeltas$History"
  | 5 => .object "RootedDeltas$Reach"
  | 6 => .object "RootedDeltas$Orders"
  | 7 => .boolean
  | 8 => .int
  | _ => .int
abbrev wsX60 : List Cond := u_ws RX6 TX6 10
theorem nmX6 : ∀ a, a < 10 → ∀ b, b < 10 → a ≠ b → (TX6 a).2.1 ≠ (TX6 b).2.1 := by decide +kernel
theorem tyX6_ok : ∀ k, k < 10 → parseFieldDescriptor (TX6 k).2.2.1 = some (tyX6 k) := by decide +kernel
abbrev cX6_init : ByteArray := prog_1_method_1_code
def yX6_init : MethodName := ⟨RX6, "<init>", "()V"⟩
abbrev cX6_make : ByteArray := prog_1_method_2_code
def yX6_make : MethodName := ⟨RX6, "make", "(III)I"⟩
abbrev cX6_mix : ByteArray := prog_1_method_3_code
def yX6_mix : MethodName := ⟨RX6, "mix", "(III)I"⟩
abbrev cX6_remove : ByteArray := prog_1_method_4_code
def yX6_remove : MethodName := ⟨RX6, "remove", "(I)I"⟩
abbrev cX6_ask : ByteArray := prog_1_method_5_code
def yX6_ask : MethodName := ⟨RX6, "ask", "(I)I"⟩
abbrev cX6_root : ByteArray := prog_1_method_6_code
def yX6_root : MethodName := ⟨RX6, "root", "(I)I"⟩
abbrev cX6_cut : ByteArray := prog_1_method_7_code
def yX6_cut : MethodName := ⟨RX6, "cut", "(I)I"⟩
abbrev cX6_join : ByteArray := prog_1_method_8_code
def yX6_join : MethodName := ⟨RX6, "join", "(I)I"⟩
abbrev cX6_set : ByteArray := prog_1_method_9_code
def yX6_set : MethodName := ⟨RX6, "set", "(II)I"⟩
abbrev cX6_undo : ByteArray := prog_1_method_14_code
def yX6_undo : MethodName := ⟨RX6, "undo", "()I"⟩
abbrev cX6_version : ByteArray := prog_1_method_18_code
def yX6_version : MethodName := ⟨RX6, "version", "(II)I"⟩
abbrev cX6_way : ByteArray := prog_1_method_19_code
def yX6_way : MethodName := ⟨RX6, "way", "(II)I"⟩
abbrev cX6_unlike : ByteArray := prog_1_method_20_code
def yX6_unlike : MethodName := ⟨RX6, "unlike", "(II)I"⟩
abbrev cX6_common : ByteArray := prog_1_method_21_code
def yX6_common : MethodName := ⟨RX6, "common", "(II)I"⟩
abbrev cX6_ifRoot : ByteArray := prog_1_method_22_code
def yX6_ifRoot : MethodName := ⟨RX6, "ifRoot", "(I)I"⟩
abbrev cX6_bestRoot : ByteArray := prog_1_method_23_code
def yX6_bestRoot : MethodName := ⟨RX6, "bestRoot", "(I)I"⟩
abbrev cX6_ifCut : ByteArray := prog_1_method_24_code
def yX6_ifCut : MethodName := ⟨RX6, "ifCut", "(I)I"⟩
abbrev cX6_count : ByteArray := prog_1_method_25_code
def yX6_count : MethodName := ⟨RX6, "count", "(I)I"⟩
abbrev cX6_beginAct : ByteArray := prog_1_method_26_code
def yX6_beginAct : MethodName := ⟨RX6, "beginAct", "()V"⟩
abbrev cX6_endAct : ByteArray := prog_1_method_27_code
def yX6_endAct : MethodName := ⟨RX6, "endAct", "(I)I"⟩
abbrev cX6_tryMake : ByteArray := prog_1_method_28_code
def yX6_tryMake : MethodName := ⟨RX6, "tryMake", "(III)I"⟩
abbrev cX6_tryMix : ByteArray := prog_1_method_29_code
def yX6_tryMix : MethodName := ⟨RX6, "tryMix", "(III)I"⟩
abbrev cX6_tryAsk : ByteArray := prog_1_method_30_code
def yX6_tryAsk : MethodName := ⟨RX6, "tryAsk", "(I)I"⟩
abbrev cX6_rulePrefers : ByteArray := prog_1_method_31_code
def yX6_rulePrefers : MethodName := ⟨RX6, "rulePrefers", "(II)Z"⟩
abbrev cX6_tryRoot : ByteArray := prog_1_method_32_code
def yX6_tryRoot : MethodName := ⟨RX6, "tryRoot", "(I)I"⟩
abbrev cX6_tryJoin : ByteArray := prog_1_method_33_code
def yX6_tryJoin : MethodName := ⟨RX6, "tryJoin", "(I)I"⟩
abbrev cX6_giveRoot : ByteArray := prog_1_method_34_code
def yX6_giveRoot : MethodName := ⟨RX6, "giveRoot", "(II)V"⟩
abbrev cX6_tellOfTree : ByteArray := prog_1_method_37_code
def yX6_tellOfTree : MethodName := ⟨RX6, "tellOfTree", "(II)I"⟩
abbrev cX6_costFrom : ByteArray := prog_1_method_38_code
def yX6_costFrom : MethodName := ⟨RX6, "costFrom", "(I)I"⟩
abbrev cX6_longestWay : ByteArray := prog_1_method_39_code
def yX6_longestWay : MethodName := ⟨RX6, "longestWay", "()I"⟩
abbrev cX6_isCell : ByteArray := prog_1_method_40_code
def yX6_isCell : MethodName := ⟨RX6, "isCell", "(I)Z"⟩
def RX7 : String := "RootedDeltasModel"
def TX7 : u_T := fun k => match k with
  | _ => ("", "", "", false)
def tyX7 : Nat → FieldType := fun k => match k with
  | _ => .int
abbrev wsX70 : List Cond := u_ws RX7 TX7 0
theorem nmX7 : ∀ a, a < 0 → ∀ b, b < 0 → a ≠ b → (TX7 a).2.1 ≠ (TX7 b).2.1 := by decide +kernel
theorem tyX7_ok : ∀ k, k < 0 → parseFieldDescriptor (TX7 k).2.2.1 = some (tyX7 k) := by decide +kernel
def RJ6 : String := "java/lang/Integer"
def TJ6 : u_T := fun k => match k with
  | _ => ("", "", "", false)
def tyJ6 : Nat → FieldType := fun k => match k with
  | _ => .int
abbrev wsJ60 : List Cond := u_ws RJ6 TJ6 0
theorem nmJ6 : ∀ a, a < 0 → ∀ b, b < 0 → a ≠ b → (TJ6 a).2.1 ≠ (TJ6 b).2.1 := by decide +kernel
theorem tyJ6_ok : ∀ k, k < 0 → parseFieldDescriptor (TJ6 k).2.2.1 = some (tyJ6 k) := by decide +kernel
abbrev cJ6_numberOfTrailingZeros_0f7a4 : ByteArray := prog_10_method_48_code
def yJ6_numberOfTrailingZeros_0f7a4 : MethodName := ⟨RJ6, "numberOfTrailingZeros", "(I)I"⟩
abbrev cJ6_bitCount_0f7a4 : ByteArray := prog_10_method_49_code
def yJ6_bitCount_0f7a4 : MethodName := ⟨RJ6, "bitCount", "(I)I"⟩
def RJ9 : String := "java/lang/Math"
def TJ9 : u_T := fun k => match k with
  | _ => ("", "", "", false)
def tyJ9 : Nat → FieldType := fun k => match k with
  | _ => .int
abbrev wsJ90 : List Cond := u_ws RJ9 TJ9 0
theorem nmJ9 : ∀ a, a < 0 → ∀ b, b < 0 → a ≠ b → (TJ9 a).2.1 ≠ (TJ9 b).2.1 := by decide +kernel
theorem tyJ9_ok : ∀ k, k < 0 → parseFieldDescriptor (TJ9 k).2.2.1 = some (tyJ9 k) := by decide +kernel
abbrev cJ9_max_7cf53 : ByteArray := prog_11_method_65_code
def yJ9_max_7cf53 : MethodName := ⟨RJ9, "max", "(II)I"⟩
abbrev cJ9_min_7cf53 : ByteArray := prog_11_method_69_code
def yJ9_min_7cf53 : MethodName := ⟨RJ9, "min", "(II)I"⟩
def RJ10 : String := "java/lang/System"
def TJ10 : u_T := fun k => match k with
  | _ => ("", "", "", false)
def tyJ10 : Nat → FieldType := fun k => match k with
  | _ => .int
abbrev wsJ100 : List Cond := u_ws RJ10 TJ10 0
theorem nmJ10 : ∀ a, a < 0 → ∀ b, b < 0 → a ≠ b → (TJ10 a).2.1 ≠ (TJ10 b).2.1 := by decide +kernel
theorem tyJ10_ok : ∀ k, k < 0 → parseFieldDescriptor (TJ10 k).2.2.1 = some (tyJ10 k) := by decide +kernel
def RL : String := "RootedDeltasLaw"
abbrev cL_cell : ByteArray := method_2_code
def yL_cell : MethodName := ⟨RL, "cell", "([II)I"⟩
abbrev cL_low : ByteArray := method_3_code
def yL_low : MethodName := ⟨RL, "low", "(II)I"⟩
abbrev cL_pick : ByteArray := method_4_code
def yL_pick : MethodName := ⟨RL, "pick", "(LRootedDeltas;I)I"⟩
abbrev cL_does : ByteArray := method_5_code
def yL_does : MethodName := ⟨RL, "does", "(LRootedDeltas;I)I"⟩
abbrev cL_isSo : ByteArray := method_6_code
def yL_isSo : MethodName := ⟨RL, "isSo", "(LRootedDeltas;)Z"⟩
abbrev cL_isWaySo : ByteArray := method_7_code
def yL_isWaySo : MethodName := ⟨RL, "isWaySo", "(LRootedDeltas;I)Z"⟩
abbrev cL_isAskSo : ByteArray := method_8_code
def yL_isAskSo : MethodName := ⟨RL, "isAskSo", "(LRootedDeltas;I)Z"⟩
abbrev cL_areIfsSo : ByteArray := method_9_code
def yL_areIfsSo : MethodName := ⟨RL, "areIfsSo", "(LRootedDeltas;II)Z"⟩
abbrev cL_law : ByteArray := code
def yL_law : MethodName := ⟨RL, "law", "([I)Z"⟩
theorem dX0_init_0 : decode cX0_init 0 = .ok (.aload_n 0, 1) := by decide +kernel
theorem dX0_init_1 : decode cX0_init 1 = .ok (.invokespecial 3, 3) := by decide +kernel
theorem dX0_init_4 : decode cX0_init 4 = .ok (.aload_n 0, 1) := by decide +kernel
theorem dX0_init_5 : decode cX0_init 5 = .ok (.iconst 4, 1) := by decide +kernel
theorem dX0_init_6 : decode cX0_init 6 = .ok (.anewarray 9, 3) := by decide +kernel
theorem dX0_init_9 : decode cX0_init 9 = .ok (.putfield 11, 3) := by decide +kernel
theorem dX0_init_12 : decode cX0_init 12 = .ok (.iconst 0, 1) := by decide +kernel
theorem dX0_init_13 : decode cX0_init 13 = .ok (.istore_n 1, 1) := by decide +kernel
theorem dX0_init_14 : decode cX0_init 14 = .ok (.iload_n 1, 1) := by decide +kernel
theorem dX0_init_15 : decode cX0_init 15 = .ok (.aload_n 0, 1) := by decide +kernel
theorem dX0_init_16 : decode cX0_init 16 = .ok (.getfield 11, 3) := by decide +kernel
theorem dX0_init_19 : decode cX0_init 19 = .ok (.arraylength, 1) := by decide +kernel
theorem dX0_init_20 : decode cX0_init 20 = .ok (.if_icmp .ge 22, 3) := by decide +kernel
theorem dX0_init_23 : decode cX0_init 23 = .ok (.aload_n 0, 1) := by decide +kernel
theorem dX0_init_24 : decode cX0_init 24 = .ok (.getfield 11, 3) := by decide +kernel
theorem dX0_init_27 : decode cX0_init 27 = .ok (.iload_n 1, 1) := by decide +kernel
theorem dX0_init_28 : decode cX0_init 28 = .ok (.new 9, 3) := by decide +kernel
theorem dX0_init_31 : decode cX0_init 31 = .ok (.dup, 1) := by decide +kernel
theorem dX0_init_32 : decode cX0_init 32 = .ok (.invokespecial 17, 3) := by decide +kernel
theorem dX0_init_35 : decode cX0_init 35 = .ok (.aastore, 1) := by decide +kernel
theorem dX0_init_36 : decode cX0_init 36 = .ok (.iinc 1 1, 3) := by decide +kernel
theorem dX0_init_39 : decode cX0_init 39 = .ok (.goto (-25), 3) := by decide +kernel
theorem dX0_init_42 : decode cX0_init 42 = .ok (.return_, 1) := by decide +kernel
theorem dX0_record_0 : decode cX0_record 0 = .ok (.aload_n 0, 1) := by decide +kernel
theorem dX0_record_1 : decode cX0_record 1 = .ok (.getfield 18, 3) := by decide +kernel
theorem dX0_record_4 : decode cX0_record 4 = .ok (.iconst 4, 1) := by decide +kernel
theorem dX0_record_5 : decode cX0_record 5 = .ok (.if_icmp .lt 7, 3) := by decide +kernel
theorem dX0_record_8 : decode cX0_record 8 = .ok (.aload_n 0, 1) := by decide +kernel
theorem dX0_record_9 : decode cX0_record 9 = .ok (.invokevirtual 22, 3) := by decide +kernel
theorem dX0_record_12 : decode cX0_record 12 = .ok (.aload_n 0, 1) := by decide +kernel
theorem dX0_record_13 : decode cX0_record 13 = .ok (.aload_n 0, 1) := by decide +kernel
theorem dX0_record_14 : decode cX0_record 14 = .ok (.getfield 18, 3) := by decide +kernel
theorem dX0_record_17 : decode cX0_record 17 = .ok (.invokevirtual 25, 3) := by decide +kernel
theorem dX0_record_20 : decode cX0_record 20 = .ok (.astore_n 2, 1) := by decide +kernel
theorem dX0_record_21 : decode cX0_record 21 = .ok (.aload_n 2, 1) := by decide +kernel
theorem dX0_record_22 : decode cX0_record 22 = .ok (.ifnull 18, 3) := by decide +kernel
theorem dX0_record_25 : decode cX0_record 25 = .ok (.aload_n 2, 1) := by decide +kernel
theorem dX0_record_26 : decode cX0_record 26 = .ok (.aload_n 1, 1) := by decide +kernel
theorem dX0_record_27 : decode cX0_record 27 = .ok (.invokevirtual 29, 3) := by decide +kernel
theorem dX0_record_30 : decode cX0_record 30 = .ok (.aload_n 0, 1) := by decide +kernel
theorem dX0_record_31 : decode cX0_record 31 = .ok (.dup, 1) := by decide +kernel
theorem dX0_record_32 : decode cX0_record 32 = .ok (.getfield 18, 3) := by decide +kernel
theorem dX0_record_35 : decode cX0_record 35 = .ok (.iconst 1, 1) := by decide +kernel
theorem dX0_record_36 : decode cX0_record 36 = .ok (.iadd, 1) := by decide +kernel
theorem dX0_record_37 : decode cX0_record 37 = .ok (.putfield 18, 3) := by decide +kernel
theorem dX0_record_40 : decode cX0_record 40 = .ok (.return_, 1) := by decide +kernel
theorem dX0_takeLatest_0 : decode cX0_takeLatest 0 = .ok (.aload_n 0, 1) := by decide +kernel
theorem dX0_takeLatest_1 : decode cX0_takeLatest 1 = .ok (.aload_n 0, 1) := by decide +kernel
theorem dX0_takeLatest_2 : decode cX0_takeLatest 2 = .ok (.getfield 18, 3) := by decide +kernel
theorem dX0_takeLatest_5 : decode cX0_takeLatest 5 = .ok (.iconst 1, 1) := by decide +kernel
theorem dX0_takeLatest_6 : decode cX0_takeLatest 6 = .ok (.isub, 1) := by decide +kernel
theorem dX0_takeLatest_7 : decode cX0_takeLatest 7 = .ok (.invokevirtual 25, 3) := by decide +kernel
theorem dX0_takeLatest_10 : decode cX0_takeLatest 10 = .ok (.astore_n 2, 1) := by decide +kernel
theorem dX0_takeLatest_11 : decode cX0_takeLatest 11 = .ok (.aload_n 2, 1) := by decide +kernel
theorem dX0_takeLatest_12 : decode cX0_takeLatest 12 = .ok (.ifnonnull 5, 3) := by decide +kernel
theorem dX0_takeLatest_15 : decode cX0_takeLatest 15 = .ok (.iconst 0, 1) := by decide +kernel
theorem dX0_takeLatest_16 : decode cX0_takeLatest 16 = .ok (.ireturn, 1) := by decide +kernel
theorem dX0_takeLatest_17 : decode cX0_takeLatest 17 = .ok (.aload_n 1, 1) := by decide +kernel
theorem dX0_takeLatest_18 : decode cX0_takeLatest 18 = .ok (.aload_n 2, 1) := by decide +kernel
theorem dX0_takeLatest_19 : decode cX0_takeLatest 19 = .ok (.invokevirtual 29, 3) := by decide +kernel
theorem dX0_takeLatest_22 : decode cX0_takeLatest 22 = .ok (.aload_n 0, 1) := by decide +kernel
theorem dX0_takeLatest_23 : decode cX0_takeLatest 23 = .ok (.dup, 1) := by decide +kernel
theorem dX0_takeLatest_24 : decode cX0_takeLatest 24 = .ok (.getfield 18, 3) := by decide +kernel
theorem dX0_takeLatest_27 : decode cX0_takeLatest 27 = .ok (.iconst 1, 1) := by decide +kernel
theorem dX0_takeLatest_28 : decode cX0_takeLatest 28 = .ok (.isub, 1) := by decide +kernel
theorem dX0_takeLatest_29 : decode cX0_takeLatest 29 = .ok (.putfield 18, 3) := by decide +kernel
theorem dX0_takeLatest_32 : decode cX0_takeLatest 32 = .ok (.iconst 1, 1) := by decide +kernel
theorem dX0_takeLatest_33 : decode cX0_takeLatest 33 = .ok (.ireturn, 1) := by decide +kernel
theorem dX0_stateAt_0 : decode cX0_stateAt 0 = .ok (.iload_n 1, 1) := by decide +kernel
theorem dX0_stateAt_1 : decode cX0_stateAt 1 = .ok (.ifCond .lt 21, 3) := by decide +kernel
theorem dX0_stateAt_4 : decode cX0_stateAt 4 = .ok (.iload_n 1, 1) := by decide +kernel
theorem dX0_stateAt_5 : decode cX0_stateAt 5 = .ok (.aload_n 0, 1) := by decide +kernel
theorem dX0_stateAt_6 : decode cX0_stateAt 6 = .ok (.getfield 11, 3) := by decide +kernel
theorem dX0_stateAt_9 : decode cX0_stateAt 9 = .ok (.arraylength, 1) := by decide +kernel
theorem dX0_stateAt_10 : decode cX0_stateAt 10 = .ok (.if_icmp .ge 12, 3) := by decide +kernel
theorem dX0_stateAt_13 : decode cX0_stateAt 13 = .ok (.aload_n 0, 1) := by decide +kernel
theorem dX0_stateAt_14 : decode cX0_stateAt 14 = .ok (.getfield 11, 3) := by decide +kernel
theorem dX0_stateAt_17 : decode cX0_stateAt 17 = .ok (.iload_n 1, 1) := by decide +kernel
theorem dX0_stateAt_18 : decode cX0_stateAt 18 = .ok (.aaload, 1) := by decide +kernel
theorem dX0_stateAt_19 : decode cX0_stateAt 19 = .ok (.goto 4, 3) := by decide +kernel
theorem dX0_stateAt_22 : decode cX0_stateAt 22 = .ok (.aconst_null, 1) := by decide +kernel
theorem dX0_stateAt_23 : decode cX0_stateAt 23 = .ok (.areturn, 1) := by decide +kernel
theorem dX0_dropOldest_0 : decode cX0_dropOldest 0 = .ok (.aload_n 0, 1) := by decide +kernel
theorem dX0_dropOldest_1 : decode cX0_dropOldest 1 = .ok (.iconst 0, 1) := by decide +kernel
theorem dX0_dropOldest_2 : decode cX0_dropOldest 2 = .ok (.invokevirtual 25, 3) := by decide +kernel
theorem dX0_dropOldest_5 : decode cX0_dropOldest 5 = .ok (.astore_n 1, 1) := by decide +kernel
theorem dX0_dropOldest_6 : decode cX0_dropOldest 6 = .ok (.iconst 1, 1) := by decide +kernel
theorem dX0_dropOldest_7 : decode cX0_dropOldest 7 = .ok (.istore_n 2, 1) := by decide +kernel
theorem dX0_dropOldest_8 : decode cX0_dropOldest 8 = .ok (.iload_n 2, 1) := by decide +kernel
theorem dX0_dropOldest_9 : decode cX0_dropOldest 9 = .ok (.aload_n 0, 1) := by decide +kernel
theorem dX0_dropOldest_10 : decode cX0_dropOldest 10 = .ok (.getfield 11, 3) := by decide +kernel
theorem dX0_dropOldest_13 : decode cX0_dropOldest 13 = .ok (.arraylength, 1) := by decide +kernel
theorem dX0_dropOldest_14 : decode cX0_dropOldest 14 = .ok (.if_icmp .ge 23, 3) := by decide +kernel
theorem dX0_dropOldest_17 : decode cX0_dropOldest 17 = .ok (.aload_n 0, 1) := by decide +kernel
theorem dX0_dropOldest_18 : decode cX0_dropOldest 18 = .ok (.getfield 11, 3) := by decide +kernel
theorem dX0_dropOldest_21 : decode cX0_dropOldest 21 = .ok (.iload_n 2, 1) := by decide +kernel
theorem dX0_dropOldest_22 : decode cX0_dropOldest 22 = .ok (.iconst 1, 1) := by decide +kernel
theorem dX0_dropOldest_23 : decode cX0_dropOldest 23 = .ok (.isub, 1) := by decide +kernel
theorem dX0_dropOldest_24 : decode cX0_dropOldest 24 = .ok (.aload_n 0, 1) := by decide +kernel
theorem dX0_dropOldest_25 : decode cX0_dropOldest 25 = .ok (.getfield 11, 3) := by decide +kernel
theorem dX0_dropOldest_28 : decode cX0_dropOldest 28 = .ok (.iload_n 2, 1) := by decide +kernel
theorem dX0_dropOldest_29 : decode cX0_dropOldest 29 = .ok (.aaload, 1) := by decide +kernel
theorem dX0_dropOldest_30 : decode cX0_dropOldest 30 = .ok (.aastore, 1) := by decide +kernel
theorem dX0_dropOldest_31 : decode cX0_dropOldest 31 = .ok (.iinc 2 1, 3) := by decide +kernel
theorem dX0_dropOldest_34 : decode cX0_dropOldest 34 = .ok (.goto (-26), 3) := by decide +kernel
theorem dX0_dropOldest_37 : decode cX0_dropOldest 37 = .ok (.aload_n 0, 1) := by decide +kernel
theorem dX0_dropOldest_38 : decode cX0_dropOldest 38 = .ok (.getfield 11, 3) := by decide +kernel
theorem dX0_dropOldest_41 : decode cX0_dropOldest 41 = .ok (.arraylength, 1) := by decide +kernel
theorem dX0_dropOldest_42 : decode cX0_dropOldest 42 = .ok (.ifCond .le 27, 3) := by decide +kernel
theorem dX0_dropOldest_45 : decode cX0_dropOldest 45 = .ok (.aload_n 0, 1) := by decide +kernel
theorem dX0_dropOldest_46 : decode cX0_dropOldest 46 = .ok (.getfield 11, 3) := by decide +kernel
theorem dX0_dropOldest_49 : decode cX0_dropOldest 49 = .ok (.aload_n 0, 1) := by decide +kernel
theorem dX0_dropOldest_50 : decode cX0_dropOldest 50 = .ok (.getfield 11, 3) := by decide +kernel
theorem dX0_dropOldest_53 : decode cX0_dropOldest 53 = .ok (.arraylength, 1) := by decide +kernel
theorem dX0_dropOldest_54 : decode cX0_dropOldest 54 = .ok (.iconst 1, 1) := by decide +kernel
theorem dX0_dropOldest_55 : decode cX0_dropOldest 55 = .ok (.isub, 1) := by decide +kernel
theorem dX0_dropOldest_56 : decode cX0_dropOldest 56 = .ok (.aload_n 1, 1) := by decide +kernel
theorem dX0_dropOldest_57 : decode cX0_dropOldest 57 = .ok (.aastore, 1) := by decide +kernel
theorem dX0_dropOldest_58 : decode cX0_dropOldest 58 = .ok (.aload_n 0, 1) := by decide +kernel
theorem dX0_dropOldest_59 : decode cX0_dropOldest 59 = .ok (.aload_n 0, 1) := by decide +kernel
theorem dX0_dropOldest_60 : decode cX0_dropOldest 60 = .ok (.getfield 11, 3) := by decide +kernel
theorem dX0_dropOldest_63 : decode cX0_dropOldest 63 = .ok (.arraylength, 1) := by decide +kernel
theorem dX0_dropOldest_64 : decode cX0_dropOldest 64 = .ok (.iconst 1, 1) := by decide +kernel
theorem dX0_dropOldest_65 : decode cX0_dropOldest 65 = .ok (.isub, 1) := by decide +kernel
theorem dX0_dropOldest_66 : decode cX0_dropOldest 66 = .ok (.putfield 18, 3) := by decide +kernel
theorem dX0_dropOldest_69 : decode cX0_dropOldest 69 = .ok (.return_, 1) := by decide +kernel
theorem dX1_init_0 : decode cX1_init 0 = .ok (.aload_n 0, 1) := by decide +kernel
theorem dX1_init_1 : decode cX1_init 1 = .ok (.invokespecial 3, 3) := by decide +kernel
theorem dX1_init_4 : decode cX1_init 4 = .ok (.aload_n 0, 1) := by decide +kernel
theorem dX1_init_5 : decode cX1_init 5 = .ok (.bipush 80, 2) := by decide +kernel
theorem dX1_init_7 : decode cX1_init 7 = .ok (.newarray .char, 2) := by decide +kernel
theorem dX1_init_9 : decode cX1_init 9 = .ok (.putfield 9, 3) := by decide +kernel
theorem dX1_init_12 : decode cX1_init 12 = .ok (.aload_n 0, 1) := by decide +kernel
theorem dX1_init_13 : decode cX1_init 13 = .ok (.bipush 16, 2) := by decide +kernel
theorem dX1_init_15 : decode cX1_init 15 = .ok (.newarray .int, 2) := by decide +kernel
theorem dX1_init_17 : decode cX1_init 17 = .ok (.putfield 15, 3) := by decide +kernel
theorem dX1_init_20 : decode cX1_init 20 = .ok (.aload_n 0, 1) := by decide +kernel
theorem dX1_init_21 : decode cX1_init 21 = .ok (.bipush 16, 2) := by decide +kernel
theorem dX1_init_23 : decode cX1_init 23 = .ok (.newarray .int, 2) := by decide +kernel
theorem dX1_init_25 : decode cX1_init 25 = .ok (.putfield 19, 3) := by decide +kernel
theorem dX1_init_28 : decode cX1_init 28 = .ok (.aload_n 0, 1) := by decide +kernel
theorem dX1_init_29 : decode cX1_init 29 = .ok (.bipush 16, 2) := by decide +kernel
theorem dX1_init_31 : decode cX1_init 31 = .ok (.newarray .int, 2) := by decide +kernel
theorem dX1_init_33 : decode cX1_init 33 = .ok (.putfield 22, 3) := by decide +kernel
theorem dX1_init_36 : decode cX1_init 36 = .ok (.aload_n 0, 1) := by decide +kernel
theorem dX1_init_37 : decode cX1_init 37 = .ok (.bipush 16, 2) := by decide +kernel
theorem dX1_init_39 : decode cX1_init 39 = .ok (.newarray .int, 2) := by decide +kernel
theorem dX1_init_41 : decode cX1_init 41 = .ok (.putfield 25, 3) := by decide +kernel
theorem dX1_init_44 : decode cX1_init 44 = .ok (.return_, 1) := by decide +kernel
theorem dX2_init_0 : decode cX2_init 0 = .ok (.aload_n 0, 1) := by decide +kernel
theorem dX2_init_1 : decode cX2_init 1 = .ok (.invokespecial 3, 3) := by decide +kernel
theorem dX2_init_4 : decode cX2_init 4 = .ok (.aload_n 0, 1) := by decide +kernel
theorem dX2_init_5 : decode cX2_init 5 = .ok (.bipush 24, 2) := by decide +kernel
theorem dX2_init_7 : decode cX2_init 7 = .ok (.newarray .int, 2) := by decide +kernel
theorem dX2_init_9 : decode cX2_init 9 = .ok (.putfield 9, 3) := by decide +kernel
theorem dX2_init_12 : decode cX2_init 12 = .ok (.aload_n 0, 1) := by decide +kernel
theorem dX2_init_13 : decode cX2_init 13 = .ok (.bipush 24, 2) := by decide +kernel
theorem dX2_init_15 : decode cX2_init 15 = .ok (.newarray .int, 2) := by decide +kernel
theorem dX2_init_17 : decode cX2_init 17 = .ok (.putfield 15, 3) := by decide +kernel
theorem dX2_init_20 : decode cX2_init 20 = .ok (.aload_n 0, 1) := by decide +kernel
theorem dX2_init_21 : decode cX2_init 21 = .ok (.bipush 24, 2) := by decide +kernel
theorem dX2_init_23 : decode cX2_init 23 = .ok (.newarray .int, 2) := by decide +kernel
theorem dX2_init_25 : decode cX2_init 25 = .ok (.putfield 18, 3) := by decide +kernel
theorem dX2_init_28 : decode cX2_init 28 = .ok (.return_, 1) := by decide +kernel
theorem dX2_spread_0 : decode cX2_spread 0 = .ok (.aload_n 0, 1) := by decide +kernel
theorem dX2_spread_1 : decode cX2_spread 1 = .ok (.iload_n 2, 1) := by decide +kernel
theorem dX2_spread_2 : decode cX2_spread 2 = .ok (.invokestatic 21, 3) := by decide +kernel
theorem dX2_spread_5 : decode cX2_spread 5 = .ok (.putfield 27, 3) := by decide +kernel
theorem dX2_spread_8 : decode cX2_spread 8 = .ok (.aload_n 0, 1) := by decide +kernel
theorem dX2_spread_9 : decode cX2_spread 9 = .ok (.getfield 9, 3) := by decide +kernel
theorem dX2_spread_12 : decode cX2_spread 12 = .ok (.iload_n 2, 1) := by decide +kernel
theorem dX2_spread_13 : decode cX2_spread 13 = .ok (.iconst 0, 1) := by decide +kernel
theorem dX2_spread_14 : decode cX2_spread 14 = .ok (.invokestatic 31, 3) := by decide +kernel
theorem dX2_spread_17 : decode cX2_spread 17 = .ok (.aload_n 0, 1) := by decide +kernel
theorem dX2_spread_18 : decode cX2_spread 18 = .ok (.getfield 15, 3) := by decide +kernel
theorem dX2_spread_21 : decode cX2_spread 21 = .ok (.iload_n 2, 1) := by decide +kernel
theorem dX2_spread_22 : decode cX2_spread 22 = .ok (.iconst 0, 1) := by decide +kernel
theorem dX2_spread_23 : decode cX2_spread 23 = .ok (.invokestatic 31, 3) := by decide +kernel
theorem dX2_spread_26 : decode cX2_spread 26 = .ok (.aload_n 0, 1) := by decide +kernel
theorem dX2_spread_27 : decode cX2_spread 27 = .ok (.getfield 18, 3) := by decide +kernel
theorem dX2_spread_30 : decode cX2_spread 30 = .ok (.iload_n 2, 1) := by decide +kernel
theorem dX2_spread_31 : decode cX2_spread 31 = .ok (.iload_n 2, 1) := by decide +kernel
theorem dX2_spread_32 : decode cX2_spread 32 = .ok (.invokestatic 31, 3) := by decide +kernel
theorem dX2_spread_35 : decode cX2_spread 35 = .ok (.iconst 0, 1) := by decide +kernel
theorem dX2_spread_36 : decode cX2_spread 36 = .ok (.istore_n 3, 1) := by decide +kernel
theorem dX2_spread_37 : decode cX2_spread 37 = .ok (.iconst 0, 1) := by decide +kernel
theorem dX2_spread_38 : decode cX2_spread 38 = .ok (.istore 4, 2) := by decide +kernel
theorem dX2_spread_40 : decode cX2_spread 40 = .ok (.iload 4, 2) := by decide +kernel
theorem dX2_spread_42 : decode cX2_spread 42 = .ok (.bipush 24, 2) := by decide +kernel
theorem dX2_spread_44 : decode cX2_spread 44 = .ok (.if_icmp .ge 54, 3) := by decide +kernel
theorem dX2_spread_47 : decode cX2_spread 47 = .ok (.aload_n 0, 1) := by decide +kernel
theorem dX2_spread_48 : decode cX2_spread 48 = .ok (.getfield 27, 3) := by decide +kernel
theorem dX2_spread_51 : decode cX2_spread 51 = .ok (.iload_n 3, 1) := by decide +kernel
theorem dX2_spread_52 : decode cX2_spread 52 = .ok (.if_icmp .eq 46, 3) := by decide +kernel
theorem dX2_spread_55 : decode cX2_spread 55 = .ok (.aload_n 0, 1) := by decide +kernel
theorem dX2_spread_56 : decode cX2_spread 56 = .ok (.getfield 27, 3) := by decide +kernel
theorem dX2_spread_59 : decode cX2_spread 59 = .ok (.istore_n 3, 1) := by decide +kernel
theorem dX2_spread_60 : decode cX2_spread 60 = .ok (.iconst 1, 1) := by decide +kernel
theorem dX2_spread_61 : decode cX2_spread 61 = .ok (.istore 5, 2) := by decide +kernel
theorem dX2_spread_63 : decode cX2_spread 63 = .ok (.iload 5, 2) := by decide +kernel
theorem dX2_spread_65 : decode cX2_spread 65 = .ok (.bipush 24, 2) := by decide +kernel
theorem dX2_spread_67 : decode cX2_spread 67 = .ok (.if_icmp .ge 25, 3) := by decide +kernel
theorem dX2_spread_70 : decode cX2_spread 70 = .ok (.aload_n 1, 1) := by decide +kernel
theorem dX2_spread_71 : decode cX2_spread 71 = .ok (.iload 5, 2) := by decide +kernel
theorem dX2_spread_73 : decode cX2_spread 73 = .ok (.invokevirtual 37, 3) := by decide +kernel
theorem dX2_spread_76 : decode cX2_spread 76 = .ok (.ifCond .eq 10, 3) := by decide +kernel
theorem dX2_spread_79 : decode cX2_spread 79 = .ok (.aload_n 0, 1) := by decide +kernel
theorem dX2_spread_80 : decode cX2_spread 80 = .ok (.aload_n 1, 1) := by decide +kernel
theorem dX2_spread_81 : decode cX2_spread 81 = .ok (.iload 5, 2) := by decide +kernel
theorem dX2_spread_83 : decode cX2_spread 83 = .ok (.invokevirtual 43, 3) := by decide +kernel
theorem dX2_spread_86 : decode cX2_spread 86 = .ok (.iinc 5 1, 3) := by decide +kernel
theorem dX2_spread_89 : decode cX2_spread 89 = .ok (.goto (-26), 3) := by decide +kernel
theorem dX2_spread_92 : decode cX2_spread 92 = .ok (.iinc 4 1, 3) := by decide +kernel
theorem dX2_spread_95 : decode cX2_spread 95 = .ok (.goto (-55), 3) := by decide +kernel
theorem dX2_spread_98 : decode cX2_spread 98 = .ok (.return_, 1) := by decide +kernel
theorem dX2_spreadAlong_0 : decode cX2_spreadAlong 0 = .ok (.aload_n 1, 1) := by decide +kernel
theorem dX2_spreadAlong_1 : decode cX2_spreadAlong 1 = .ok (.iload_n 2, 1) := by decide +kernel
theorem dX2_spreadAlong_2 : decode cX2_spreadAlong 2 = .ok (.invokevirtual 47, 3) := by decide +kernel
theorem dX2_spreadAlong_5 : decode cX2_spreadAlong 5 = .ok (.istore_n 3, 1) := by decide +kernel
theorem dX2_spreadAlong_6 : decode cX2_spreadAlong 6 = .ok (.aload_n 0, 1) := by decide +kernel
theorem dX2_spreadAlong_7 : decode cX2_spreadAlong 7 = .ok (.getfield 27, 3) := by decide +kernel
theorem dX2_spreadAlong_10 : decode cX2_spreadAlong 10 = .ok (.iload_n 2, 1) := by decide +kernel
theorem dX2_spreadAlong_11 : decode cX2_spreadAlong 11 = .ok (.invokestatic 50, 3) := by decide +kernel
theorem dX2_spreadAlong_14 : decode cX2_spreadAlong 14 = .ok (.istore 4, 2) := by decide +kernel
theorem dX2_spreadAlong_16 : decode cX2_spreadAlong 16 = .ok (.iload 4, 2) := by decide +kernel
theorem dX2_spreadAlong_18 : decode cX2_spreadAlong 18 = .ok (.aload_n 0, 1) := by decide +kernel
theorem dX2_spreadAlong_19 : decode cX2_spreadAlong 19 = .ok (.getfield 27, 3) := by decide +kernel
theorem dX2_spreadAlong_22 : decode cX2_spreadAlong 22 = .ok (.iload_n 3, 1) := by decide +kernel
theorem dX2_spreadAlong_23 : decode cX2_spreadAlong 23 = .ok (.invokestatic 50, 3) := by decide +kernel
theorem dX2_spreadAlong_26 : decode cX2_spreadAlong 26 = .ok (.if_icmp .ne 4, 3) := by decide +kernel
theorem dX2_spreadAlong_29 : decode cX2_spreadAlong 29 = .ok (.return_, 1) := by decide +kernel
theorem dX2_spreadAlong_30 : decode cX2_spreadAlong 30 = .ok (.iload 4, 2) := by decide +kernel
theorem dX2_spreadAlong_32 : decode cX2_spreadAlong 32 = .ok (.ifCond .eq 7, 3) := by decide +kernel
theorem dX2_spreadAlong_35 : decode cX2_spreadAlong 35 = .ok (.iload_n 2, 1) := by decide +kernel
theorem dX2_spreadAlong_36 : decode cX2_spreadAlong 36 = .ok (.goto 4, 3) := by decide +kernel
theorem dX2_spreadAlong_39 : decode cX2_spreadAlong 39 = .ok (.iload_n 3, 1) := by decide +kernel
theorem dX2_spreadAlong_40 : decode cX2_spreadAlong 40 = .ok (.istore 5, 2) := by decide +kernel
theorem dX2_spreadAlong_42 : decode cX2_spreadAlong 42 = .ok (.iload 4, 2) := by decide +kernel
theorem dX2_spreadAlong_44 : decode cX2_spreadAlong 44 = .ok (.ifCond .eq 7, 3) := by decide +kernel
theorem dX2_spreadAlong_47 : decode cX2_spreadAlong 47 = .ok (.iload_n 3, 1) := by decide +kernel
theorem dX2_spreadAlong_48 : decode cX2_spreadAlong 48 = .ok (.goto 4, 3) := by decide +kernel
theorem dX2_spreadAlong_51 : decode cX2_spreadAlong 51 = .ok (.iload_n 2, 1) := by decide +kernel
theorem dX2_spreadAlong_52 : decode cX2_spreadAlong 52 = .ok (.istore 6, 2) := by decide +kernel
theorem dX2_spreadAlong_54 : decode cX2_spreadAlong 54 = .ok (.aload_n 0, 1) := by decide +kernel
theorem dX2_spreadAlong_55 : decode cX2_spreadAlong 55 = .ok (.dup, 1) := by decide +kernel
theorem dX2_spreadAlong_56 : decode cX2_spreadAlong 56 = .ok (.getfield 27, 3) := by decide +kernel
theorem dX2_spreadAlong_59 : decode cX2_spreadAlong 59 = .ok (.iload 6, 2) := by decide +kernel
theorem dX2_spreadAlong_61 : decode cX2_spreadAlong 61 = .ok (.invokestatic 21, 3) := by decide +kernel
theorem dX2_spreadAlong_64 : decode cX2_spreadAlong 64 = .ok (.ior, 1) := by decide +kernel
theorem dX2_spreadAlong_65 : decode cX2_spreadAlong 65 = .ok (.putfield 27, 3) := by decide +kernel
theorem dX2_spreadAlong_68 : decode cX2_spreadAlong 68 = .ok (.aload_n 0, 1) := by decide +kernel
theorem dX2_spreadAlong_69 : decode cX2_spreadAlong 69 = .ok (.getfield 9, 3) := by decide +kernel
theorem dX2_spreadAlong_72 : decode cX2_spreadAlong 72 = .ok (.iload 6, 2) := by decide +kernel
theorem dX2_spreadAlong_74 : decode cX2_spreadAlong 74 = .ok (.aload_n 0, 1) := by decide +kernel
theorem dX2_spreadAlong_75 : decode cX2_spreadAlong 75 = .ok (.iload 5, 2) := by decide +kernel
theorem dX2_spreadAlong_77 : decode cX2_spreadAlong 77 = .ok (.invokevirtual 54, 3) := by decide +kernel
theorem dX2_spreadAlong_80 : decode cX2_spreadAlong 80 = .ok (.iconst 1, 1) := by decide +kernel
theorem dX2_spreadAlong_81 : decode cX2_spreadAlong 81 = .ok (.iadd, 1) := by decide +kernel
theorem dX2_spreadAlong_82 : decode cX2_spreadAlong 82 = .ok (.invokestatic 31, 3) := by decide +kernel
theorem dX2_spreadAlong_85 : decode cX2_spreadAlong 85 = .ok (.aload_n 0, 1) := by decide +kernel
theorem dX2_spreadAlong_86 : decode cX2_spreadAlong 86 = .ok (.getfield 15, 3) := by decide +kernel
theorem dX2_spreadAlong_89 : decode cX2_spreadAlong 89 = .ok (.iload 6, 2) := by decide +kernel
theorem dX2_spreadAlong_91 : decode cX2_spreadAlong 91 = .ok (.aload_n 0, 1) := by decide +kernel
theorem dX2_spreadAlong_92 : decode cX2_spreadAlong 92 = .ok (.iload 5, 2) := by decide +kernel
theorem dX2_spreadAlong_94 : decode cX2_spreadAlong 94 = .ok (.invokevirtual 57, 3) := by decide +kernel
theorem dX2_spreadAlong_97 : decode cX2_spreadAlong 97 = .ok (.aload_n 1, 1) := by decide +kernel
theorem dX2_spreadAlong_98 : decode cX2_spreadAlong 98 = .ok (.iload_n 2, 1) := by decide +kernel
theorem dX2_spreadAlong_99 : decode cX2_spreadAlong 99 = .ok (.invokevirtual 60, 3) := by decide +kernel
theorem dX2_spreadAlong_102 : decode cX2_spreadAlong 102 = .ok (.invokestatic 63, 3) := by decide +kernel
theorem dX2_spreadAlong_105 : decode cX2_spreadAlong 105 = .ok (.iadd, 1) := by decide +kernel
theorem dX2_spreadAlong_106 : decode cX2_spreadAlong 106 = .ok (.invokestatic 31, 3) := by decide +kernel
theorem dX2_spreadAlong_109 : decode cX2_spreadAlong 109 = .ok (.aload_n 0, 1) := by decide +kernel
theorem dX2_spreadAlong_110 : decode cX2_spreadAlong 110 = .ok (.getfield 18, 3) := by decide +kernel
theorem dX2_spreadAlong_113 : decode cX2_spreadAlong 113 = .ok (.iload 6, 2) := by decide +kernel
theorem dX2_spreadAlong_115 : decode cX2_spreadAlong 115 = .ok (.iload 5, 2) := by decide +kernel
theorem dX2_spreadAlong_117 : decode cX2_spreadAlong 117 = .ok (.invokestatic 31, 3) := by decide +kernel
theorem dX2_spreadAlong_120 : decode cX2_spreadAlong 120 = .ok (.return_, 1) := by decide +kernel
theorem dX2_rootReached_0 : decode cX2_rootReached 0 = .ok (.aload_n 0, 1) := by decide +kernel
theorem dX2_rootReached_1 : decode cX2_rootReached 1 = .ok (.getfield 27, 3) := by decide +kernel
theorem dX2_rootReached_4 : decode cX2_rootReached 4 = .ok (.aload_n 1, 1) := by decide +kernel
theorem dX2_rootReached_5 : decode cX2_rootReached 5 = .ok (.getfield 68, 3) := by decide +kernel
theorem dX2_rootReached_8 : decode cX2_rootReached 8 = .ok (.iand, 1) := by decide +kernel
theorem dX2_rootReached_9 : decode cX2_rootReached 9 = .ok (.invokestatic 71, 3) := by decide +kernel
theorem dX2_rootReached_12 : decode cX2_rootReached 12 = .ok (.ireturn, 1) := by decide +kernel
theorem dX2_stepsTo_0 : decode cX2_stepsTo 0 = .ok (.aload_n 0, 1) := by decide +kernel
theorem dX2_stepsTo_1 : decode cX2_stepsTo 1 = .ok (.getfield 9, 3) := by decide +kernel
theorem dX2_stepsTo_4 : decode cX2_stepsTo 4 = .ok (.iload_n 1, 1) := by decide +kernel
theorem dX2_stepsTo_5 : decode cX2_stepsTo 5 = .ok (.invokestatic 74, 3) := by decide +kernel
theorem dX2_stepsTo_8 : decode cX2_stepsTo 8 = .ok (.ireturn, 1) := by decide +kernel
theorem dX2_cellsTo_0 : decode cX2_cellsTo 0 = .ok (.aload_n 0, 1) := by decide +kernel
theorem dX2_cellsTo_1 : decode cX2_cellsTo 1 = .ok (.getfield 15, 3) := by decide +kernel
theorem dX2_cellsTo_4 : decode cX2_cellsTo 4 = .ok (.iload_n 1, 1) := by decide +kernel
theorem dX2_cellsTo_5 : decode cX2_cellsTo 5 = .ok (.invokestatic 74, 3) := by decide +kernel
theorem dX2_cellsTo_8 : decode cX2_cellsTo 8 = .ok (.ireturn, 1) := by decide +kernel
theorem dX2_towardsStart_0 : decode cX2_towardsStart 0 = .ok (.iload_n 1, 1) := by decide +kernel
theorem dX2_towardsStart_1 : decode cX2_towardsStart 1 = .ok (.istore_n 3, 1) := by decide +kernel
theorem dX2_towardsStart_2 : decode cX2_towardsStart 2 = .ok (.iconst 0, 1) := by decide +kernel
theorem dX2_towardsStart_3 : decode cX2_towardsStart 3 = .ok (.istore 4, 2) := by decide +kernel
theorem dX2_towardsStart_5 : decode cX2_towardsStart 5 = .ok (.iload 4, 2) := by decide +kernel
theorem dX2_towardsStart_7 : decode cX2_towardsStart 7 = .ok (.iload_n 2, 1) := by decide +kernel
theorem dX2_towardsStart_8 : decode cX2_towardsStart 8 = .ok (.if_icmp .ge 25, 3) := by decide +kernel
theorem dX2_towardsStart_11 : decode cX2_towardsStart 11 = .ok (.iload 4, 2) := by decide +kernel
theorem dX2_towardsStart_13 : decode cX2_towardsStart 13 = .ok (.bipush 24, 2) := by decide +kernel
theorem dX2_towardsStart_15 : decode cX2_towardsStart 15 = .ok (.if_icmp .ge 18, 3) := by decide +kernel
theorem dX2_towardsStart_18 : decode cX2_towardsStart 18 = .ok (.aload_n 0, 1) := by decide +kernel
theorem dX2_towardsStart_19 : decode cX2_towardsStart 19 = .ok (.getfield 18, 3) := by decide +kernel
theorem dX2_towardsStart_22 : decode cX2_towardsStart 22 = .ok (.iload_n 3, 1) := by decide +kernel
theorem dX2_towardsStart_23 : decode cX2_towardsStart 23 = .ok (.invokestatic 74, 3) := by decide +kernel
theorem dX2_towardsStart_26 : decode cX2_towardsStart 26 = .ok (.istore_n 3, 1) := by decide +kernel
theorem dX2_towardsStart_27 : decode cX2_towardsStart 27 = .ok (.iinc 4 1, 3) := by decide +kernel
theorem dX2_towardsStart_30 : decode cX2_towardsStart 30 = .ok (.goto (-25), 3) := by decide +kernel
theorem dX2_towardsStart_33 : decode cX2_towardsStart 33 = .ok (.iload_n 3, 1) := by decide +kernel
theorem dX2_towardsStart_34 : decode cX2_towardsStart 34 = .ok (.ireturn, 1) := by decide +kernel
theorem dX2_farthest_0 : decode cX2_farthest 0 = .ok (.iconst 0, 1) := by decide +kernel
theorem dX2_farthest_1 : decode cX2_farthest 1 = .ok (.istore_n 1, 1) := by decide +kernel
theorem dX2_farthest_2 : decode cX2_farthest 2 = .ok (.iconst 0, 1) := by decide +kernel
theorem dX2_farthest_3 : decode cX2_farthest 3 = .ok (.istore_n 2, 1) := by decide +kernel
theorem dX2_farthest_4 : decode cX2_farthest 4 = .ok (.iload_n 2, 1) := by decide +kernel
theorem dX2_farthest_5 : decode cX2_farthest 5 = .ok (.bipush 24, 2) := by decide +kernel
theorem dX2_farthest_7 : decode cX2_farthest 7 = .ok (.if_icmp .ge 30, 3) := by decide +kernel
theorem dX2_farthest_10 : decode cX2_farthest 10 = .ok (.aload_n 0, 1) := by decide +kernel
theorem dX2_farthest_11 : decode cX2_farthest 11 = .ok (.getfield 27, 3) := by decide +kernel
theorem dX2_farthest_14 : decode cX2_farthest 14 = .ok (.iload_n 2, 1) := by decide +kernel
theorem dX2_farthest_15 : decode cX2_farthest 15 = .ok (.invokestatic 50, 3) := by decide +kernel
theorem dX2_farthest_18 : decode cX2_farthest 18 = .ok (.ifCond .eq 13, 3) := by decide +kernel
theorem dX2_farthest_21 : decode cX2_farthest 21 = .ok (.iload_n 1, 1) := by decide +kernel
theorem dX2_farthest_22 : decode cX2_farthest 22 = .ok (.aload_n 0, 1) := by decide +kernel
theorem dX2_farthest_23 : decode cX2_farthest 23 = .ok (.iload_n 2, 1) := by decide +kernel
theorem dX2_farthest_24 : decode cX2_farthest 24 = .ok (.invokevirtual 54, 3) := by decide +kernel
theorem dX2_farthest_27 : decode cX2_farthest 27 = .ok (.invokestatic 78, 3) := by decide +kernel
theorem dX2_farthest_30 : decode cX2_farthest 30 = .ok (.istore_n 1, 1) := by decide +kernel
theorem dX2_farthest_31 : decode cX2_farthest 31 = .ok (.iinc 2 1, 3) := by decide +kernel
theorem dX2_farthest_34 : decode cX2_farthest 34 = .ok (.goto (-30), 3) := by decide +kernel
theorem dX2_farthest_37 : decode cX2_farthest 37 = .ok (.iload_n 1, 1) := by decide +kernel
theorem dX2_farthest_38 : decode cX2_farthest 38 = .ok (.ireturn, 1) := by decide +kernel
theorem dX3_at_0 : decode cX3_at 0 = .ok (.iload_n 1, 1) := by decide +kernel
theorem dX3_at_1 : decode cX3_at 1 = .ok (.ifCond .lt 15, 3) := by decide +kernel
theorem dX3_at_4 : decode cX3_at 4 = .ok (.iload_n 1, 1) := by decide +kernel
theorem dX3_at_5 : decode cX3_at 5 = .ok (.aload_n 0, 1) := by decide +kernel
theorem dX3_at_6 : decode cX3_at 6 = .ok (.arraylength, 1) := by decide +kernel
theorem dX3_at_7 : decode cX3_at 7 = .ok (.if_icmp .ge 9, 3) := by decide +kernel
theorem dX3_at_10 : decode cX3_at 10 = .ok (.aload_n 0, 1) := by decide +kernel
theorem dX3_at_11 : decode cX3_at 11 = .ok (.iload_n 1, 1) := by decide +kernel
theorem dX3_at_12 : decode cX3_at 12 = .ok (.iaload, 1) := by decide +kernel
theorem dX3_at_13 : decode cX3_at 13 = .ok (.goto 4, 3) := by decide +kernel
theorem dX3_at_16 : decode cX3_at 16 = .ok (.iconst 0, 1) := by decide +kernel
theorem dX3_at_17 : decode cX3_at 17 = .ok (.ireturn, 1) := by decide +kernel
theorem dX3_put_0 : decode cX3_put 0 = .ok (.iload_n 1, 1) := by decide +kernel
theorem dX3_put_1 : decode cX3_put 1 = .ok (.ifCond .lt 13, 3) := by decide +kernel
theorem dX3_put_4 : decode cX3_put 4 = .ok (.iload_n 1, 1) := by decide +kernel
theorem dX3_put_5 : decode cX3_put 5 = .ok (.aload_n 0, 1) := by decide +kernel
theorem dX3_put_6 : decode cX3_put 6 = .ok (.arraylength, 1) := by decide +kernel
theorem dX3_put_7 : decode cX3_put 7 = .ok (.if_icmp .ge 7, 3) := by decide +kernel
theorem dX3_put_10 : decode cX3_put 10 = .ok (.aload_n 0, 1) := by decide +kernel
theorem dX3_put_11 : decode cX3_put 11 = .ok (.iload_n 1, 1) := by decide +kernel
theorem dX3_put_12 : decode cX3_put 12 = .ok (.iload_n 2, 1) := by decide +kernel
theorem dX3_put_13 : decode cX3_put 13 = .ok (.iastore, 1) := by decide +kernel
theorem dX3_put_14 : decode cX3_put 14 = .ok (.return_, 1) := by decide +kernel
theorem dX3_copy_0 : decode cX3_copy 0 = .ok (.aload_n 0, 1) := by decide +kernel
theorem dX3_copy_1 : decode cX3_copy 1 = .ok (.iconst 0, 1) := by decide +kernel
theorem dX3_copy_2 : decode cX3_copy 2 = .ok (.aload_n 1, 1) := by decide +kernel
theorem dX3_copy_3 : decode cX3_copy 3 = .ok (.iconst 0, 1) := by decide +kernel
theorem dX3_copy_4 : decode cX3_copy 4 = .ok (.aload_n 0, 1) := by decide +kernel
theorem dX3_copy_5 : decode cX3_copy 5 = .ok (.arraylength, 1) := by decide +kernel
theorem dX3_copy_6 : decode cX3_copy 6 = .ok (.aload_n 1, 1) := by decide +kernel
theorem dX3_copy_7 : decode cX3_copy 7 = .ok (.arraylength, 1) := by decide +kernel
theorem dX3_copy_8 : decode cX3_copy 8 = .ok (.invokestatic 7, 3) := by decide +kernel
theorem dX3_copy_11 : decode cX3_copy 11 = .ok (.invokestatic 13, 3) := by decide +kernel
theorem dX3_copy_14 : decode cX3_copy 14 = .ok (.return_, 1) := by decide +kernel
theorem dX4_of_0 : decode cX4_of 0 = .ok (.iconst 1, 1) := by decide +kernel
theorem dX4_of_1 : decode cX4_of 1 = .ok (.iload_n 0, 1) := by decide +kernel
theorem dX4_of_2 : decode cX4_of 2 = .ok (.ishl, 1) := by decide +kernel
theorem dX4_of_3 : decode cX4_of 3 = .ok (.ireturn, 1) := by decide +kernel
theorem dX4_isIn_0 : decode cX4_isIn 0 = .ok (.iload_n 1, 1) := by decide +kernel
theorem dX4_isIn_1 : decode cX4_isIn 1 = .ok (.ifCond .lt 21, 3) := by decide +kernel
theorem dX4_isIn_4 : decode cX4_isIn 4 = .ok (.iload_n 1, 1) := by decide +kernel
theorem dX4_isIn_5 : decode cX4_isIn 5 = .ok (.bipush 24, 2) := by decide +kernel
theorem dX4_isIn_7 : decode cX4_isIn 7 = .ok (.if_icmp .ge 15, 3) := by decide +kernel
theorem dX4_isIn_10 : decode cX4_isIn 10 = .ok (.iload_n 0, 1) := by decide +kernel
theorem dX4_isIn_11 : decode cX4_isIn 11 = .ok (.iload_n 1, 1) := by decide +kernel
theorem dX4_isIn_12 : decode cX4_isIn 12 = .ok (.iushr, 1) := by decide +kernel
theorem dX4_isIn_13 : decode cX4_isIn 13 = .ok (.iconst 1, 1) := by decide +kernel
theorem dX4_isIn_14 : decode cX4_isIn 14 = .ok (.iand, 1) := by decide +kernel
theorem dX4_isIn_15 : decode cX4_isIn 15 = .ok (.ifCond .eq 7, 3) := by decide +kernel
theorem dX4_isIn_18 : decode cX4_isIn 18 = .ok (.iconst 1, 1) := by decide +kernel
theorem dX4_isIn_19 : decode cX4_isIn 19 = .ok (.goto 4, 3) := by decide +kernel
theorem dX4_isIn_22 : decode cX4_isIn 22 = .ok (.iconst 0, 1) := by decide +kernel
theorem dX4_isIn_23 : decode cX4_isIn 23 = .ok (.ireturn, 1) := by decide +kernel
theorem dX5_init_0 : decode cX5_init 0 = .ok (.aload_n 0, 1) := by decide +kernel
theorem dX5_init_1 : decode cX5_init 1 = .ok (.invokespecial 3, 3) := by decide +kernel
theorem dX5_init_4 : decode cX5_init 4 = .ok (.aload_n 0, 1) := by decide +kernel
theorem dX5_init_5 : decode cX5_init 5 = .ok (.iconst 1, 1) := by decide +kernel
theorem dX5_init_6 : decode cX5_init 6 = .ok (.putfield 9, 3) := by decide +kernel
theorem dX5_init_9 : decode cX5_init 9 = .ok (.aload_n 0, 1) := by decide +kernel
theorem dX5_init_10 : decode cX5_init 10 = .ok (.iconst 1, 1) := by decide +kernel
theorem dX5_init_11 : decode cX5_init 11 = .ok (.putfield 15, 3) := by decide +kernel
theorem dX5_init_14 : decode cX5_init 14 = .ok (.aload_n 0, 1) := by decide +kernel
theorem dX5_init_15 : decode cX5_init 15 = .ok (.bipush 24, 2) := by decide +kernel
theorem dX5_init_17 : decode cX5_init 17 = .ok (.newarray .int, 2) := by decide +kernel
theorem dX5_init_19 : decode cX5_init 19 = .ok (.putfield 18, 3) := by decide +kernel
theorem dX5_init_22 : decode cX5_init 22 = .ok (.aload_n 0, 1) := by decide +kernel
theorem dX5_init_23 : decode cX5_init 23 = .ok (.bipush 24, 2) := by decide +kernel
theorem dX5_init_25 : decode cX5_init 25 = .ok (.newarray .int, 2) := by decide +kernel
theorem dX5_init_27 : decode cX5_init 27 = .ok (.putfield 22, 3) := by decide +kernel
theorem dX5_init_30 : decode cX5_init 30 = .ok (.aload_n 0, 1) := by decide +kernel
theorem dX5_init_31 : decode cX5_init 31 = .ok (.bipush 24, 2) := by decide +kernel
theorem dX5_init_33 : decode cX5_init 33 = .ok (.newarray .int, 2) := by decide +kernel
theorem dX5_init_35 : decode cX5_init 35 = .ok (.putfield 25, 3) := by decide +kernel
theorem dX5_init_38 : decode cX5_init 38 = .ok (.aload_n 0, 1) := by decide +kernel
theorem dX5_init_39 : decode cX5_init 39 = .ok (.sipush 192, 3) := by decide +kernel
theorem dX5_init_42 : decode cX5_init 42 = .ok (.newarray .int, 2) := by decide +kernel
theorem dX5_init_44 : decode cX5_init 44 = .ok (.putfield 28, 3) := by decide +kernel
theorem dX5_init_47 : decode cX5_init 47 = .ok (.aload_n 0, 1) := by decide +kernel
theorem dX5_init_48 : decode cX5_init 48 = .ok (.iconst 1, 1) := by decide +kernel
theorem dX5_init_49 : decode cX5_init 49 = .ok (.putfield 31, 3) := by decide +kernel
theorem dX5_init_52 : decode cX5_init 52 = .ok (.aload_n 0, 1) := by decide +kernel
theorem dX5_init_53 : decode cX5_init 53 = .ok (.bipush 6, 2) := by decide +kernel
theorem dX5_init_55 : decode cX5_init 55 = .ok (.putfield 34, 3) := by decide +kernel
theorem dX5_init_58 : decode cX5_init 58 = .ok (.return_, 1) := by decide +kernel
theorem dX5_copyFrom_0 : decode cX5_copyFrom 0 = .ok (.aload_n 0, 1) := by decide +kernel
theorem dX5_copyFrom_1 : decode cX5_copyFrom 1 = .ok (.aload_n 1, 1) := by decide +kernel
theorem dX5_copyFrom_2 : decode cX5_copyFrom 2 = .ok (.getfield 9, 3) := by decide +kernel
theorem dX5_copyFrom_5 : decode cX5_copyFrom 5 = .ok (.putfield 9, 3) := by decide +kernel
theorem dX5_copyFrom_8 : decode cX5_copyFrom 8 = .ok (.aload_n 0, 1) := by decide +kernel
theorem dX5_copyFrom_9 : decode cX5_copyFrom 9 = .ok (.aload_n 1, 1) := by decide +kernel
theorem dX5_copyFrom_10 : decode cX5_copyFrom 10 = .ok (.getfield 37, 3) := by decide +kernel
theorem dX5_copyFrom_13 : decode cX5_copyFrom 13 = .ok (.putfield 37, 3) := by decide +kernel
theorem dX5_copyFrom_16 : decode cX5_copyFrom 16 = .ok (.aload_n 0, 1) := by decide +kernel
theorem dX5_copyFrom_17 : decode cX5_copyFrom 17 = .ok (.aload_n 1, 1) := by decide +kernel
theorem dX5_copyFrom_18 : decode cX5_copyFrom 18 = .ok (.getfield 15, 3) := by decide +kernel
theorem dX5_copyFrom_21 : decode cX5_copyFrom 21 = .ok (.putfield 15, 3) := by decide +kernel
theorem dX5_copyFrom_24 : decode cX5_copyFrom 24 = .ok (.aload_n 1, 1) := by decide +kernel
theorem dX5_copyFrom_25 : decode cX5_copyFrom 25 = .ok (.getfield 18, 3) := by decide +kernel
theorem dX5_copyFrom_28 : decode cX5_copyFrom 28 = .ok (.aload_n 0, 1) := by decide +kernel
theorem dX5_copyFrom_29 : decode cX5_copyFrom 29 = .ok (.getfield 18, 3) := by decide +kernel
theorem dX5_copyFrom_32 : decode cX5_copyFrom 32 = .ok (.invokestatic 40, 3) := by decide +kernel
theorem dX5_copyFrom_35 : decode cX5_copyFrom 35 = .ok (.aload_n 1, 1) := by decide +kernel
theorem dX5_copyFrom_36 : decode cX5_copyFrom 36 = .ok (.getfield 22, 3) := by decide +kernel
theorem dX5_copyFrom_39 : decode cX5_copyFrom 39 = .ok (.aload_n 0, 1) := by decide +kernel
theorem dX5_copyFrom_40 : decode cX5_copyFrom 40 = .ok (.getfield 22, 3) := by decide +kernel
theorem dX5_copyFrom_43 : decode cX5_copyFrom 43 = .ok (.invokestatic 40, 3) := by decide +kernel
theorem dX5_copyFrom_46 : decode cX5_copyFrom 46 = .ok (.aload_n 1, 1) := by decide +kernel
theorem dX5_copyFrom_47 : decode cX5_copyFrom 47 = .ok (.getfield 25, 3) := by decide +kernel
theorem dX5_copyFrom_50 : decode cX5_copyFrom 50 = .ok (.aload_n 0, 1) := by decide +kernel
theorem dX5_copyFrom_51 : decode cX5_copyFrom 51 = .ok (.getfield 25, 3) := by decide +kernel
theorem dX5_copyFrom_54 : decode cX5_copyFrom 54 = .ok (.invokestatic 40, 3) := by decide +kernel
theorem dX5_copyFrom_57 : decode cX5_copyFrom 57 = .ok (.aload_n 1, 1) := by decide +kernel
theorem dX5_copyFrom_58 : decode cX5_copyFrom 58 = .ok (.getfield 28, 3) := by decide +kernel
theorem dX5_copyFrom_61 : decode cX5_copyFrom 61 = .ok (.aload_n 0, 1) := by decide +kernel
theorem dX5_copyFrom_62 : decode cX5_copyFrom 62 = .ok (.getfield 28, 3) := by decide +kernel
theorem dX5_copyFrom_65 : decode cX5_copyFrom 65 = .ok (.invokestatic 40, 3) := by decide +kernel
theorem dX5_copyFrom_68 : decode cX5_copyFrom 68 = .ok (.aload_n 0, 1) := by decide +kernel
theorem dX5_copyFrom_69 : decode cX5_copyFrom 69 = .ok (.aload_n 1, 1) := by decide +kernel
theorem dX5_copyFrom_70 : decode cX5_copyFrom 70 = .ok (.getfield 31, 3) := by decide +kernel
theorem dX5_copyFrom_73 : decode cX5_copyFrom 73 = .ok (.putfield 31, 3) := by decide +kernel
theorem dX5_copyFrom_76 : decode cX5_copyFrom 76 = .ok (.aload_n 0, 1) := by decide +kernel
theorem dX5_copyFrom_77 : decode cX5_copyFrom 77 = .ok (.aload_n 1, 1) := by decide +kernel
theorem dX5_copyFrom_78 : decode cX5_copyFrom 78 = .ok (.getfield 34, 3) := by decide +kernel
theorem dX5_copyFrom_81 : decode cX5_copyFrom 81 = .ok (.putfield 34, 3) := by decide +kernel
theorem dX5_copyFrom_84 : decode cX5_copyFrom 84 = .ok (.aload_n 0, 1) := by decide +kernel
theorem dX5_copyFrom_85 : decode cX5_copyFrom 85 = .ok (.aload_n 1, 1) := by decide +kernel
theorem dX5_copyFrom_86 : decode cX5_copyFrom 86 = .ok (.getfield 46, 3) := by decide +kernel
theorem dX5_copyFrom_89 : decode cX5_copyFrom 89 = .ok (.putfield 46, 3) := by decide +kernel
theorem dX5_copyFrom_92 : decode cX5_copyFrom 92 = .ok (.aload_n 0, 1) := by decide +kernel
theorem dX5_copyFrom_93 : decode cX5_copyFrom 93 = .ok (.aload_n 1, 1) := by decide +kernel
theorem dX5_copyFrom_94 : decode cX5_copyFrom 94 = .ok (.getfield 49, 3) := by decide +kernel
theorem dX5_copyFrom_97 : decode cX5_copyFrom 97 = .ok (.putfield 49, 3) := by decide +kernel
theorem dX5_copyFrom_100 : decode cX5_copyFrom 100 = .ok (.aload_n 0, 1) := by decide +kernel
theorem dX5_copyFrom_101 : decode cX5_copyFrom 101 = .ok (.aload_n 1, 1) := by decide +kernel
theorem dX5_copyFrom_102 : decode cX5_copyFrom 102 = .ok (.getfield 52, 3) := by decide +kernel
theorem dX5_copyFrom_105 : decode cX5_copyFrom 105 = .ok (.putfield 52, 3) := by decide +kernel
theorem dX5_copyFrom_108 : decode cX5_copyFrom 108 = .ok (.aload_n 0, 1) := by decide +kernel
theorem dX5_copyFrom_109 : decode cX5_copyFrom 109 = .ok (.aload_n 1, 1) := by decide +kernel
theorem dX5_copyFrom_110 : decode cX5_copyFrom 110 = .ok (.getfield 55, 3) := by decide +kernel
theorem dX5_copyFrom_113 : decode cX5_copyFrom 113 = .ok (.putfield 55, 3) := by decide +kernel
theorem dX5_copyFrom_116 : decode cX5_copyFrom 116 = .ok (.return_, 1) := by decide +kernel
theorem dX5_has_0 : decode cX5_has 0 = .ok (.aload_n 0, 1) := by decide +kernel
theorem dX5_has_1 : decode cX5_has 1 = .ok (.getfield 9, 3) := by decide +kernel
theorem dX5_has_4 : decode cX5_has 4 = .ok (.iload_n 1, 1) := by decide +kernel
theorem dX5_has_5 : decode cX5_has 5 = .ok (.invokestatic 58, 3) := by decide +kernel
theorem dX5_has_8 : decode cX5_has 8 = .ok (.ireturn, 1) := by decide +kernel
theorem dX5_isKept_0 : decode cX5_isKept 0 = .ok (.aload_n 0, 1) := by decide +kernel
theorem dX5_isKept_1 : decode cX5_isKept 1 = .ok (.getfield 37, 3) := by decide +kernel
theorem dX5_isKept_4 : decode cX5_isKept 4 = .ok (.iload_n 1, 1) := by decide +kernel
theorem dX5_isKept_5 : decode cX5_isKept 5 = .ok (.invokestatic 58, 3) := by decide +kernel
theorem dX5_isKept_8 : decode cX5_isKept 8 = .ok (.ireturn, 1) := by decide +kernel
theorem dX5_isRoot_0 : decode cX5_isRoot 0 = .ok (.aload_n 0, 1) := by decide +kernel
theorem dX5_isRoot_1 : decode cX5_isRoot 1 = .ok (.getfield 15, 3) := by decide +kernel
theorem dX5_isRoot_4 : decode cX5_isRoot 4 = .ok (.iload_n 1, 1) := by decide +kernel
theorem dX5_isRoot_5 : decode cX5_isRoot 5 = .ok (.invokestatic 58, 3) := by decide +kernel
theorem dX5_isRoot_8 : decode cX5_isRoot 8 = .ok (.ireturn, 1) := by decide +kernel
theorem dX5_sourceOf_0 : decode cX5_sourceOf 0 = .ok (.aload_n 0, 1) := by decide +kernel
theorem dX5_sourceOf_1 : decode cX5_sourceOf 1 = .ok (.getfield 18, 3) := by decide +kernel
theorem dX5_sourceOf_4 : decode cX5_sourceOf 4 = .ok (.iload_n 1, 1) := by decide +kernel
theorem dX5_sourceOf_5 : decode cX5_sourceOf 5 = .ok (.invokestatic 64, 3) := by decide +kernel
theorem dX5_sourceOf_8 : decode cX5_sourceOf 8 = .ok (.ireturn, 1) := by decide +kernel
theorem dX5_differenceOf_0 : decode cX5_differenceOf 0 = .ok (.aload_n 0, 1) := by decide +kernel
theorem dX5_differenceOf_1 : decode cX5_differenceOf 1 = .ok (.getfield 22, 3) := by decide +kernel
theorem dX5_differenceOf_4 : decode cX5_differenceOf 4 = .ok (.iload_n 1, 1) := by decide +kernel
theorem dX5_differenceOf_5 : decode cX5_differenceOf 5 = .ok (.invokestatic 64, 3) := by decide +kernel
theorem dX5_differenceOf_8 : decode cX5_differenceOf 8 = .ok (.ireturn, 1) := by decide +kernel
theorem dX5_askedFor_0 : decode cX5_askedFor 0 = .ok (.aload_n 0, 1) := by decide +kernel
theorem dX5_askedFor_1 : decode cX5_askedFor 1 = .ok (.getfield 25, 3) := by decide +kernel
theorem dX5_askedFor_4 : decode cX5_askedFor 4 = .ok (.iload_n 1, 1) := by decide +kernel
theorem dX5_askedFor_5 : decode cX5_askedFor 5 = .ok (.invokestatic 64, 3) := by decide +kernel
theorem dX5_askedFor_8 : decode cX5_askedFor 8 = .ok (.ireturn, 1) := by decide +kernel
theorem dX5_numberIn_0 : decode cX5_numberIn 0 = .ok (.aload_n 0, 1) := by decide +kernel
theorem dX5_numberIn_1 : decode cX5_numberIn 1 = .ok (.getfield 28, 3) := by decide +kernel
theorem dX5_numberIn_4 : decode cX5_numberIn 4 = .ok (.iload_n 1, 1) := by decide +kernel
theorem dX5_numberIn_5 : decode cX5_numberIn 5 = .ok (.bipush 8, 2) := by decide +kernel
theorem dX5_numberIn_7 : decode cX5_numberIn 7 = .ok (.imul, 1) := by decide +kernel
theorem dX5_numberIn_8 : decode cX5_numberIn 8 = .ok (.iload_n 2, 1) := by decide +kernel
theorem dX5_numberIn_9 : decode cX5_numberIn 9 = .ok (.iadd, 1) := by decide +kernel
theorem dX5_numberIn_10 : decode cX5_numberIn 10 = .ok (.invokestatic 64, 3) := by decide +kernel
theorem dX5_numberIn_13 : decode cX5_numberIn 13 = .ok (.ireturn, 1) := by decide +kernel
theorem dX5_putNumber_0 : decode cX5_putNumber 0 = .ok (.aload_n 0, 1) := by decide +kernel
theorem dX5_putNumber_1 : decode cX5_putNumber 1 = .ok (.getfield 28, 3) := by decide +kernel
theorem dX5_putNumber_4 : decode cX5_putNumber 4 = .ok (.iload_n 1, 1) := by decide +kernel
theorem dX5_putNumber_5 : decode cX5_putNumber 5 = .ok (.bipush 8, 2) := by decide +kernel
theorem dX5_putNumber_7 : decode cX5_putNumber 7 = .ok (.imul, 1) := by decide +kernel
theorem dX5_putNumber_8 : decode cX5_putNumber 8 = .ok (.iload_n 2, 1) := by decide +kernel
theorem dX5_putNumber_9 : decode cX5_putNumber 9 = .ok (.iadd, 1) := by decide +kernel
theorem dX5_putNumber_10 : decode cX5_putNumber 10 = .ok (.iload_n 3, 1) := by decide +kernel
theorem dX5_putNumber_11 : decode cX5_putNumber 11 = .ok (.invokestatic 68, 3) := by decide +kernel
theorem dX5_putNumber_14 : decode cX5_putNumber 14 = .ok (.return_, 1) := by decide +kernel
theorem dX5_copyCells_0 : decode cX5_copyCells 0 = .ok (.iconst 0, 1) := by decide +kernel
theorem dX5_copyCells_1 : decode cX5_copyCells 1 = .ok (.istore 4, 2) := by decide +kernel
theorem dX5_copyCells_3 : decode cX5_copyCells 3 = .ok (.iload 4, 2) := by decide +kernel
theorem dX5_copyCells_5 : decode cX5_copyCells 5 = .ok (.bipush 8, 2) := by decide +kernel
theorem dX5_copyCells_7 : decode cX5_copyCells 7 = .ok (.if_icmp .ge 32, 3) := by decide +kernel
theorem dX5_copyCells_10 : decode cX5_copyCells 10 = .ok (.iload_n 3, 1) := by decide +kernel
theorem dX5_copyCells_11 : decode cX5_copyCells 11 = .ok (.iload 4, 2) := by decide +kernel
theorem dX5_copyCells_13 : decode cX5_copyCells 13 = .ok (.invokestatic 58, 3) := by decide +kernel
theorem dX5_copyCells_16 : decode cX5_copyCells 16 = .ok (.ifCond .eq 17, 3) := by decide +kernel
theorem dX5_copyCells_19 : decode cX5_copyCells 19 = .ok (.aload_n 0, 1) := by decide +kernel
theorem dX5_copyCells_20 : decode cX5_copyCells 20 = .ok (.iload_n 2, 1) := by decide +kernel
theorem dX5_copyCells_21 : decode cX5_copyCells 21 = .ok (.iload 4, 2) := by decide +kernel
theorem dX5_copyCells_23 : decode cX5_copyCells 23 = .ok (.aload_n 0, 1) := by decide +kernel
theorem dX5_copyCells_24 : decode cX5_copyCells 24 = .ok (.iload_n 1, 1) := by decide +kernel
theorem dX5_copyCells_25 : decode cX5_copyCells 25 = .ok (.iload 4, 2) := by decide +kernel
theorem dX5_copyCells_27 : decode cX5_copyCells 27 = .ok (.invokevirtual 72, 3) := by decide +kernel
theorem dX5_copyCells_30 : decode cX5_copyCells 30 = .ok (.invokevirtual 76, 3) := by decide +kernel
theorem dX5_copyCells_33 : decode cX5_copyCells 33 = .ok (.iinc 4 1, 3) := by decide +kernel
theorem dX5_copyCells_36 : decode cX5_copyCells 36 = .ok (.goto (-33), 3) := by decide +kernel
theorem dX5_copyCells_39 : decode cX5_copyCells 39 = .ok (.return_, 1) := by decide +kernel
theorem dX5_unlikeCells_0 : decode cX5_unlikeCells 0 = .ok (.iconst 0, 1) := by decide +kernel
theorem dX5_unlikeCells_1 : decode cX5_unlikeCells 1 = .ok (.istore_n 3, 1) := by decide +kernel
theorem dX5_unlikeCells_2 : decode cX5_unlikeCells 2 = .ok (.iconst 0, 1) := by decide +kernel
theorem dX5_unlikeCells_3 : decode cX5_unlikeCells 3 = .ok (.istore 4, 2) := by decide +kernel
theorem dX5_unlikeCells_5 : decode cX5_unlikeCells 5 = .ok (.iload 4, 2) := by decide +kernel
theorem dX5_unlikeCells_7 : decode cX5_unlikeCells 7 = .ok (.bipush 8, 2) := by decide +kernel
theorem dX5_unlikeCells_9 : decode cX5_unlikeCells 9 = .ok (.if_icmp .ge 34, 3) := by decide +kernel
theorem dX5_unlikeCells_12 : decode cX5_unlikeCells 12 = .ok (.aload_n 0, 1) := by decide +kernel
theorem dX5_unlikeCells_13 : decode cX5_unlikeCells 13 = .ok (.iload_n 1, 1) := by decide +kernel
theorem dX5_unlikeCells_14 : decode cX5_unlikeCells 14 = .ok (.iload 4, 2) := by decide +kernel
theorem dX5_unlikeCells_16 : decode cX5_unlikeCells 16 = .ok (.invokevirtual 72, 3) := by decide +kernel
theorem dX5_unlikeCells_19 : decode cX5_unlikeCells 19 = .ok (.aload_n 0, 1) := by decide +kernel
theorem dX5_unlikeCells_20 : decode cX5_unlikeCells 20 = .ok (.iload_n 2, 1) := by decide +kernel
theorem dX5_unlikeCells_21 : decode cX5_unlikeCells 21 = .ok (.iload 4, 2) := by decide +kernel
theorem dX5_unlikeCells_23 : decode cX5_unlikeCells 23 = .ok (.invokevirtual 72, 3) := by decide +kernel
theorem dX5_unlikeCells_26 : decode cX5_unlikeCells 26 = .ok (.if_icmp .eq 11, 3) := by decide +kernel
theorem dX5_unlikeCells_29 : decode cX5_unlikeCells 29 = .ok (.iload_n 3, 1) := by decide +kernel
theorem dX5_unlikeCells_30 : decode cX5_unlikeCells 30 = .ok (.iload 4, 2) := by decide +kernel
theorem dX5_unlikeCells_32 : decode cX5_unlikeCells 32 = .ok (.invokestatic 80, 3) := by decide +kernel
theorem dX5_unlikeCells_35 : decode cX5_unlikeCells 35 = .ok (.ior, 1) := by decide +kernel
theorem dX5_unlikeCells_36 : decode cX5_unlikeCells 36 = .ok (.istore_n 3, 1) := by decide +kernel
theorem dX5_unlikeCells_37 : decode cX5_unlikeCells 37 = .ok (.iinc 4 1, 3) := by decide +kernel
theorem dX5_unlikeCells_40 : decode cX5_unlikeCells 40 = .ok (.goto (-35), 3) := by decide +kernel
theorem dX5_unlikeCells_43 : decode cX5_unlikeCells 43 = .ok (.iload_n 3, 1) := by decide +kernel
theorem dX5_unlikeCells_44 : decode cX5_unlikeCells 44 = .ok (.ireturn, 1) := by decide +kernel
theorem dX5_hang_0 : decode cX5_hang 0 = .ok (.aload_n 0, 1) := by decide +kernel
theorem dX5_hang_1 : decode cX5_hang 1 = .ok (.dup, 1) := by decide +kernel
theorem dX5_hang_2 : decode cX5_hang 2 = .ok (.getfield 9, 3) := by decide +kernel
theorem dX5_hang_5 : decode cX5_hang 5 = .ok (.iload_n 1, 1) := by decide +kernel
theorem dX5_hang_6 : decode cX5_hang 6 = .ok (.invokestatic 80, 3) := by decide +kernel
theorem dX5_hang_9 : decode cX5_hang 9 = .ok (.ior, 1) := by decide +kernel
theorem dX5_hang_10 : decode cX5_hang 10 = .ok (.putfield 9, 3) := by decide +kernel
theorem dX5_hang_13 : decode cX5_hang 13 = .ok (.aload_n 0, 1) := by decide +kernel
theorem dX5_hang_14 : decode cX5_hang 14 = .ok (.getfield 18, 3) := by decide +kernel
theorem dX5_hang_17 : decode cX5_hang 17 = .ok (.iload_n 1, 1) := by decide +kernel
theorem dX5_hang_18 : decode cX5_hang 18 = .ok (.iload_n 2, 1) := by decide +kernel
theorem dX5_hang_19 : decode cX5_hang 19 = .ok (.invokestatic 68, 3) := by decide +kernel
theorem dX5_hang_22 : decode cX5_hang 22 = .ok (.aload_n 0, 1) := by decide +kernel
theorem dX5_hang_23 : decode cX5_hang 23 = .ok (.getfield 22, 3) := by decide +kernel
theorem dX5_hang_26 : decode cX5_hang 26 = .ok (.iload_n 1, 1) := by decide +kernel
theorem dX5_hang_27 : decode cX5_hang 27 = .ok (.aload_n 0, 1) := by decide +kernel
theorem dX5_hang_28 : decode cX5_hang 28 = .ok (.iload_n 1, 1) := by decide +kernel
theorem dX5_hang_29 : decode cX5_hang 29 = .ok (.iload_n 2, 1) := by decide +kernel
theorem dX5_hang_30 : decode cX5_hang 30 = .ok (.invokevirtual 84, 3) := by decide +kernel
theorem dX5_hang_33 : decode cX5_hang 33 = .ok (.invokestatic 68, 3) := by decide +kernel
theorem dX5_hang_36 : decode cX5_hang 36 = .ok (.aload_n 0, 1) := by decide +kernel
theorem dX5_hang_37 : decode cX5_hang 37 = .ok (.getfield 25, 3) := by decide +kernel
theorem dX5_hang_40 : decode cX5_hang 40 = .ok (.iload_n 1, 1) := by decide +kernel
theorem dX5_hang_41 : decode cX5_hang 41 = .ok (.iconst 0, 1) := by decide +kernel
theorem dX5_hang_42 : decode cX5_hang 42 = .ok (.invokestatic 68, 3) := by decide +kernel
theorem dX5_hang_45 : decode cX5_hang 45 = .ok (.aload_n 0, 1) := by decide +kernel
theorem dX5_hang_46 : decode cX5_hang 46 = .ok (.iload_n 1, 1) := by decide +kernel
theorem dX5_hang_47 : decode cX5_hang 47 = .ok (.invokevirtual 87, 3) := by decide +kernel
theorem dX5_hang_50 : decode cX5_hang 50 = .ok (.return_, 1) := by decide +kernel
theorem dX5_drop_0 : decode cX5_drop 0 = .ok (.aload_n 0, 1) := by decide +kernel
theorem dX5_drop_1 : decode cX5_drop 1 = .ok (.dup, 1) := by decide +kernel
theorem dX5_drop_2 : decode cX5_drop 2 = .ok (.getfield 9, 3) := by decide +kernel
theorem dX5_drop_5 : decode cX5_drop 5 = .ok (.iload_n 1, 1) := by decide +kernel
theorem dX5_drop_6 : decode cX5_drop 6 = .ok (.invokestatic 80, 3) := by decide +kernel
theorem dX5_drop_9 : decode cX5_drop 9 = .ok (.iconst (-1), 1) := by decide +kernel
theorem dX5_drop_10 : decode cX5_drop 10 = .ok (.ixor, 1) := by decide +kernel
theorem dX5_drop_11 : decode cX5_drop 11 = .ok (.iand, 1) := by decide +kernel
theorem dX5_drop_12 : decode cX5_drop 12 = .ok (.putfield 9, 3) := by decide +kernel
theorem dX5_drop_15 : decode cX5_drop 15 = .ok (.aload_n 0, 1) := by decide +kernel
theorem dX5_drop_16 : decode cX5_drop 16 = .ok (.iload_n 1, 1) := by decide +kernel
theorem dX5_drop_17 : decode cX5_drop 17 = .ok (.invokevirtual 91, 3) := by decide +kernel
theorem dX5_drop_20 : decode cX5_drop 20 = .ok (.aload_n 0, 1) := by decide +kernel
theorem dX5_drop_21 : decode cX5_drop 21 = .ok (.iload_n 1, 1) := by decide +kernel
theorem dX5_drop_22 : decode cX5_drop 22 = .ok (.invokevirtual 94, 3) := by decide +kernel
theorem dX5_drop_25 : decode cX5_drop 25 = .ok (.return_, 1) := by decide +kernel
theorem dX5_keepDifference_0 : decode cX5_keepDifference 0 = .ok (.aload_n 0, 1) := by decide +kernel
theorem dX5_keepDifference_1 : decode cX5_keepDifference 1 = .ok (.dup, 1) := by decide +kernel
theorem dX5_keepDifference_2 : decode cX5_keepDifference 2 = .ok (.getfield 37, 3) := by decide +kernel
theorem dX5_keepDifference_5 : decode cX5_keepDifference 5 = .ok (.iload_n 1, 1) := by decide +kernel
theorem dX5_keepDifference_6 : decode cX5_keepDifference 6 = .ok (.invokestatic 80, 3) := by decide +kernel
theorem dX5_keepDifference_9 : decode cX5_keepDifference 9 = .ok (.ior, 1) := by decide +kernel
theorem dX5_keepDifference_10 : decode cX5_keepDifference 10 = .ok (.putfield 37, 3) := by decide +kernel
theorem dX5_keepDifference_13 : decode cX5_keepDifference 13 = .ok (.return_, 1) := by decide +kernel
theorem dX5_cutDifference_0 : decode cX5_cutDifference 0 = .ok (.aload_n 0, 1) := by decide +kernel
theorem dX5_cutDifference_1 : decode cX5_cutDifference 1 = .ok (.dup, 1) := by decide +kernel
theorem dX5_cutDifference_2 : decode cX5_cutDifference 2 = .ok (.getfield 37, 3) := by decide +kernel
theorem dX5_cutDifference_5 : decode cX5_cutDifference 5 = .ok (.iload_n 1, 1) := by decide +kernel
theorem dX5_cutDifference_6 : decode cX5_cutDifference 6 = .ok (.invokestatic 80, 3) := by decide +kernel
theorem dX5_cutDifference_9 : decode cX5_cutDifference 9 = .ok (.iconst (-1), 1) := by decide +kernel
theorem dX5_cutDifference_10 : decode cX5_cutDifference 10 = .ok (.ixor, 1) := by decide +kernel
theorem dX5_cutDifference_11 : decode cX5_cutDifference 11 = .ok (.iand, 1) := by decide +kernel
theorem dX5_cutDifference_12 : decode cX5_cutDifference 12 = .ok (.putfield 37, 3) := by decide +kernel
theorem dX5_cutDifference_15 : decode cX5_cutDifference 15 = .ok (.return_, 1) := by decide +kernel
theorem dX5_cutBetween_0 : decode cX5_cutBetween 0 = .ok (.iload_n 1, 1) := by decide +kernel
theorem dX5_cutBetween_1 : decode cX5_cutBetween 1 = .ok (.ifCond .eq 16, 3) := by decide +kernel
theorem dX5_cutBetween_4 : decode cX5_cutBetween 4 = .ok (.aload_n 0, 1) := by decide +kernel
theorem dX5_cutBetween_5 : decode cX5_cutBetween 5 = .ok (.iload_n 1, 1) := by decide +kernel
theorem dX5_cutBetween_6 : decode cX5_cutBetween 6 = .ok (.invokevirtual 97, 3) := by decide +kernel
theorem dX5_cutBetween_9 : decode cX5_cutBetween 9 = .ok (.iload_n 2, 1) := by decide +kernel
theorem dX5_cutBetween_10 : decode cX5_cutBetween 10 = .ok (.if_icmp .ne 7, 3) := by decide +kernel
theorem dX5_cutBetween_13 : decode cX5_cutBetween 13 = .ok (.iconst 1, 1) := by decide +kernel
theorem dX5_cutBetween_14 : decode cX5_cutBetween 14 = .ok (.goto 4, 3) := by decide +kernel
theorem dX5_cutBetween_17 : decode cX5_cutBetween 17 = .ok (.iconst 0, 1) := by decide +kernel
theorem dX5_cutBetween_18 : decode cX5_cutBetween 18 = .ok (.istore_n 3, 1) := by decide +kernel
theorem dX5_cutBetween_19 : decode cX5_cutBetween 19 = .ok (.aload_n 0, 1) := by decide +kernel
theorem dX5_cutBetween_20 : decode cX5_cutBetween 20 = .ok (.iload_n 3, 1) := by decide +kernel
theorem dX5_cutBetween_21 : decode cX5_cutBetween 21 = .ok (.ifCond .eq 7, 3) := by decide +kernel
theorem dX5_cutBetween_24 : decode cX5_cutBetween 24 = .ok (.iload_n 1, 1) := by decide +kernel
theorem dX5_cutBetween_25 : decode cX5_cutBetween 25 = .ok (.goto 4, 3) := by decide +kernel
theorem dX5_cutBetween_28 : decode cX5_cutBetween 28 = .ok (.iload_n 2, 1) := by decide +kernel
theorem dX5_cutBetween_29 : decode cX5_cutBetween 29 = .ok (.invokevirtual 91, 3) := by decide +kernel
theorem dX5_cutBetween_32 : decode cX5_cutBetween 32 = .ok (.return_, 1) := by decide +kernel
theorem dX5_addRoot_0 : decode cX5_addRoot 0 = .ok (.aload_n 0, 1) := by decide +kernel
theorem dX5_addRoot_1 : decode cX5_addRoot 1 = .ok (.dup, 1) := by decide +kernel
theorem dX5_addRoot_2 : decode cX5_addRoot 2 = .ok (.getfield 15, 3) := by decide +kernel
theorem dX5_addRoot_5 : decode cX5_addRoot 5 = .ok (.iload_n 1, 1) := by decide +kernel
theorem dX5_addRoot_6 : decode cX5_addRoot 6 = .ok (.invokestatic 80, 3) := by decide +kernel
theorem dX5_addRoot_9 : decode cX5_addRoot 9 = .ok (.ior, 1) := by decide +kernel
theorem dX5_addRoot_10 : decode cX5_addRoot 10 = .ok (.putfield 15, 3) := by decide +kernel
theorem dX5_addRoot_13 : decode cX5_addRoot 13 = .ok (.return_, 1) := by decide +kernel
theorem dX5_dropRoot_0 : decode cX5_dropRoot 0 = .ok (.aload_n 0, 1) := by decide +kernel
theorem dX5_dropRoot_1 : decode cX5_dropRoot 1 = .ok (.dup, 1) := by decide +kernel
theorem dX5_dropRoot_2 : decode cX5_dropRoot 2 = .ok (.getfield 15, 3) := by decide +kernel
theorem dX5_dropRoot_5 : decode cX5_dropRoot 5 = .ok (.iload_n 1, 1) := by decide +kernel
theorem dX5_dropRoot_6 : decode cX5_dropRoot 6 = .ok (.invokestatic 80, 3) := by decide +kernel
theorem dX5_dropRoot_9 : decode cX5_dropRoot 9 = .ok (.iconst (-1), 1) := by decide +kernel
theorem dX5_dropRoot_10 : decode cX5_dropRoot 10 = .ok (.ixor, 1) := by decide +kernel
theorem dX5_dropRoot_11 : decode cX5_dropRoot 11 = .ok (.iand, 1) := by decide +kernel
theorem dX5_dropRoot_12 : decode cX5_dropRoot 12 = .ok (.putfield 15, 3) := by decide +kernel
theorem dX5_dropRoot_15 : decode cX5_dropRoot 15 = .ok (.return_, 1) := by decide +kernel
theorem dX5_moveRoot_0 : decode cX5_moveRoot 0 = .ok (.aload_n 0, 1) := by decide +kernel
theorem dX5_moveRoot_1 : decode cX5_moveRoot 1 = .ok (.iload_n 1, 1) := by decide +kernel
theorem dX5_moveRoot_2 : decode cX5_moveRoot 2 = .ok (.invokevirtual 94, 3) := by decide +kernel
theorem dX5_moveRoot_5 : decode cX5_moveRoot 5 = .ok (.aload_n 0, 1) := by decide +kernel
theorem dX5_moveRoot_6 : decode cX5_moveRoot 6 = .ok (.iload_n 2, 1) := by decide +kernel
theorem dX5_moveRoot_7 : decode cX5_moveRoot 7 = .ok (.invokevirtual 100, 3) := by decide +kernel
theorem dX5_moveRoot_10 : decode cX5_moveRoot 10 = .ok (.return_, 1) := by decide +kernel
theorem dX5_noteAsking_0 : decode cX5_noteAsking 0 = .ok (.aload_n 0, 1) := by decide +kernel
theorem dX5_noteAsking_1 : decode cX5_noteAsking 1 = .ok (.getfield 25, 3) := by decide +kernel
theorem dX5_noteAsking_4 : decode cX5_noteAsking 4 = .ok (.iload_n 1, 1) := by decide +kernel
theorem dX5_noteAsking_5 : decode cX5_noteAsking 5 = .ok (.aload_n 0, 1) := by decide +kernel
theorem dX5_noteAsking_6 : decode cX5_noteAsking 6 = .ok (.iload_n 1, 1) := by decide +kernel
theorem dX5_noteAsking_7 : decode cX5_noteAsking 7 = .ok (.invokevirtual 103, 3) := by decide +kernel
theorem dX5_noteAsking_10 : decode cX5_noteAsking 10 = .ok (.iconst 1, 1) := by decide +kernel
theorem dX5_noteAsking_11 : decode cX5_noteAsking 11 = .ok (.iadd, 1) := by decide +kernel
theorem dX5_noteAsking_12 : decode cX5_noteAsking 12 = .ok (.invokestatic 68, 3) := by decide +kernel
theorem dX5_noteAsking_15 : decode cX5_noteAsking 15 = .ok (.aload_n 0, 1) := by decide +kernel
theorem dX5_noteAsking_16 : decode cX5_noteAsking 16 = .ok (.dup, 1) := by decide +kernel
theorem dX5_noteAsking_17 : decode cX5_noteAsking 17 = .ok (.getfield 46, 3) := by decide +kernel
theorem dX5_noteAsking_20 : decode cX5_noteAsking 20 = .ok (.iconst 1, 1) := by decide +kernel
theorem dX5_noteAsking_21 : decode cX5_noteAsking 21 = .ok (.iadd, 1) := by decide +kernel
theorem dX5_noteAsking_22 : decode cX5_noteAsking 22 = .ok (.putfield 46, 3) := by decide +kernel
theorem dX5_noteAsking_25 : decode cX5_noteAsking 25 = .ok (.aload_n 0, 1) := by decide +kernel
theorem dX5_noteAsking_26 : decode cX5_noteAsking 26 = .ok (.dup, 1) := by decide +kernel
theorem dX5_noteAsking_27 : decode cX5_noteAsking 27 = .ok (.getfield 49, 3) := by decide +kernel
theorem dX5_noteAsking_30 : decode cX5_noteAsking 30 = .ok (.iload_n 2, 1) := by decide +kernel
theorem dX5_noteAsking_31 : decode cX5_noteAsking 31 = .ok (.iadd, 1) := by decide +kernel
theorem dX5_noteAsking_32 : decode cX5_noteAsking 32 = .ok (.putfield 49, 3) := by decide +kernel
theorem dX5_noteAsking_35 : decode cX5_noteAsking 35 = .ok (.return_, 1) := by decide +kernel
theorem dX5_lowestFree_0 : decode cX5_lowestFree 0 = .ok (.iconst 0, 1) := by decide +kernel
theorem dX5_lowestFree_1 : decode cX5_lowestFree 1 = .ok (.istore_n 1, 1) := by decide +kernel
theorem dX5_lowestFree_2 : decode cX5_lowestFree 2 = .ok (.iload_n 1, 1) := by decide +kernel
theorem dX5_lowestFree_3 : decode cX5_lowestFree 3 = .ok (.bipush 24, 2) := by decide +kernel
theorem dX5_lowestFree_5 : decode cX5_lowestFree 5 = .ok (.if_icmp .ge 17, 3) := by decide +kernel
theorem dX5_lowestFree_8 : decode cX5_lowestFree 8 = .ok (.aload_n 0, 1) := by decide +kernel
theorem dX5_lowestFree_9 : decode cX5_lowestFree 9 = .ok (.iload_n 1, 1) := by decide +kernel
theorem dX5_lowestFree_10 : decode cX5_lowestFree 10 = .ok (.invokevirtual 106, 3) := by decide +kernel
theorem dX5_lowestFree_13 : decode cX5_lowestFree 13 = .ok (.ifCond .eq 9, 3) := by decide +kernel
theorem dX5_lowestFree_16 : decode cX5_lowestFree 16 = .ok (.iinc 1 1, 3) := by decide +kernel
theorem dX5_lowestFree_19 : decode cX5_lowestFree 19 = .ok (.goto (-17), 3) := by decide +kernel
theorem dX5_lowestFree_22 : decode cX5_lowestFree 22 = .ok (.iload_n 1, 1) := by decide +kernel
theorem dX5_lowestFree_23 : decode cX5_lowestFree 23 = .ok (.ireturn, 1) := by decide +kernel
theorem dX5_howMany_0 : decode cX5_howMany 0 = .ok (.aload_n 0, 1) := by decide +kernel
theorem dX5_howMany_1 : decode cX5_howMany 1 = .ok (.getfield 9, 3) := by decide +kernel
theorem dX5_howMany_4 : decode cX5_howMany 4 = .ok (.invokestatic 110, 3) := by decide +kernel
theorem dX5_howMany_7 : decode cX5_howMany 7 = .ok (.ireturn, 1) := by decide +kernel
theorem dX5_trees_0 : decode cX5_trees 0 = .ok (.aload_n 0, 1) := by decide +kernel
theorem dX5_trees_1 : decode cX5_trees 1 = .ok (.getfield 15, 3) := by decide +kernel
theorem dX5_trees_4 : decode cX5_trees 4 = .ok (.invokestatic 110, 3) := by decide +kernel
theorem dX5_trees_7 : decode cX5_trees 7 = .ok (.ireturn, 1) := by decide +kernel
theorem dX5_cuts_0 : decode cX5_cuts 0 = .ok (.aload_n 0, 1) := by decide +kernel
theorem dX5_cuts_1 : decode cX5_cuts 1 = .ok (.getfield 9, 3) := by decide +kernel
theorem dX5_cuts_4 : decode cX5_cuts 4 = .ok (.aload_n 0, 1) := by decide +kernel
theorem dX5_cuts_5 : decode cX5_cuts 5 = .ok (.getfield 37, 3) := by decide +kernel
theorem dX5_cuts_8 : decode cX5_cuts 8 = .ok (.iconst (-1), 1) := by decide +kernel
theorem dX5_cuts_9 : decode cX5_cuts 9 = .ok (.ixor, 1) := by decide +kernel
theorem dX5_cuts_10 : decode cX5_cuts 10 = .ok (.iand, 1) := by decide +kernel
theorem dX5_cuts_11 : decode cX5_cuts 11 = .ok (.iconst 0, 1) := by decide +kernel
theorem dX5_cuts_12 : decode cX5_cuts 12 = .ok (.invokestatic 80, 3) := by decide +kernel
theorem dX5_cuts_15 : decode cX5_cuts 15 = .ok (.iconst (-1), 1) := by decide +kernel
theorem dX5_cuts_16 : decode cX5_cuts 16 = .ok (.ixor, 1) := by decide +kernel
theorem dX5_cuts_17 : decode cX5_cuts 17 = .ok (.iand, 1) := by decide +kernel
theorem dX5_cuts_18 : decode cX5_cuts 18 = .ok (.invokestatic 110, 3) := by decide +kernel
theorem dX5_cuts_21 : decode cX5_cuts 21 = .ok (.ireturn, 1) := by decide +kernel
theorem dX5_madeOf_0 : decode cX5_madeOf 0 = .ok (.iconst 0, 1) := by decide +kernel
theorem dX5_madeOf_1 : decode cX5_madeOf 1 = .ok (.istore_n 2, 1) := by decide +kernel
theorem dX5_madeOf_2 : decode cX5_madeOf 2 = .ok (.iconst 1, 1) := by decide +kernel
theorem dX5_madeOf_3 : decode cX5_madeOf 3 = .ok (.istore_n 3, 1) := by decide +kernel
theorem dX5_madeOf_4 : decode cX5_madeOf 4 = .ok (.iload_n 3, 1) := by decide +kernel
theorem dX5_madeOf_5 : decode cX5_madeOf 5 = .ok (.bipush 24, 2) := by decide +kernel
theorem dX5_madeOf_7 : decode cX5_madeOf 7 = .ok (.if_icmp .ge 29, 3) := by decide +kernel
theorem dX5_madeOf_10 : decode cX5_madeOf 10 = .ok (.aload_n 0, 1) := by decide +kernel
theorem dX5_madeOf_11 : decode cX5_madeOf 11 = .ok (.iload_n 3, 1) := by decide +kernel
theorem dX5_madeOf_12 : decode cX5_madeOf 12 = .ok (.invokevirtual 106, 3) := by decide +kernel
theorem dX5_madeOf_15 : decode cX5_madeOf 15 = .ok (.ifCond .eq 15, 3) := by decide +kernel
theorem dX5_madeOf_18 : decode cX5_madeOf 18 = .ok (.aload_n 0, 1) := by decide +kernel
theorem dX5_madeOf_19 : decode cX5_madeOf 19 = .ok (.iload_n 3, 1) := by decide +kernel
theorem dX5_madeOf_20 : decode cX5_madeOf 20 = .ok (.invokevirtual 97, 3) := by decide +kernel
theorem dX5_madeOf_23 : decode cX5_madeOf 23 = .ok (.iload_n 1, 1) := by decide +kernel
theorem dX5_madeOf_24 : decode cX5_madeOf 24 = .ok (.if_icmp .ne 6, 3) := by decide +kernel
theorem dX5_madeOf_27 : decode cX5_madeOf 27 = .ok (.iinc 2 1, 3) := by decide +kernel
theorem dX5_madeOf_30 : decode cX5_madeOf 30 = .ok (.iinc 3 1, 3) := by decide +kernel
theorem dX5_madeOf_33 : decode cX5_madeOf 33 = .ok (.goto (-29), 3) := by decide +kernel
theorem dX5_madeOf_36 : decode cX5_madeOf 36 = .ok (.iload_n 2, 1) := by decide +kernel
theorem dX5_madeOf_37 : decode cX5_madeOf 37 = .ok (.ireturn, 1) := by decide +kernel
theorem dX5_ancestors_0 : decode cX5_ancestors 0 = .ok (.iload_n 1, 1) := by decide +kernel
theorem dX5_ancestors_1 : decode cX5_ancestors 1 = .ok (.invokestatic 80, 3) := by decide +kernel
theorem dX5_ancestors_4 : decode cX5_ancestors 4 = .ok (.iconst 0, 1) := by decide +kernel
theorem dX5_ancestors_5 : decode cX5_ancestors 5 = .ok (.invokestatic 80, 3) := by decide +kernel
theorem dX5_ancestors_8 : decode cX5_ancestors 8 = .ok (.ior, 1) := by decide +kernel
theorem dX5_ancestors_9 : decode cX5_ancestors 9 = .ok (.istore_n 2, 1) := by decide +kernel
theorem dX5_ancestors_10 : decode cX5_ancestors 10 = .ok (.iload_n 1, 1) := by decide +kernel
theorem dX5_ancestors_11 : decode cX5_ancestors 11 = .ok (.istore_n 3, 1) := by decide +kernel
theorem dX5_ancestors_12 : decode cX5_ancestors 12 = .ok (.iconst 0, 1) := by decide +kernel
theorem dX5_ancestors_13 : decode cX5_ancestors 13 = .ok (.istore 4, 2) := by decide +kernel
theorem dX5_ancestors_15 : decode cX5_ancestors 15 = .ok (.iload 4, 2) := by decide +kernel
theorem dX5_ancestors_17 : decode cX5_ancestors 17 = .ok (.bipush 24, 2) := by decide +kernel
theorem dX5_ancestors_19 : decode cX5_ancestors 19 = .ok (.if_icmp .ge 26, 3) := by decide +kernel
theorem dX5_ancestors_22 : decode cX5_ancestors 22 = .ok (.iload_n 3, 1) := by decide +kernel
theorem dX5_ancestors_23 : decode cX5_ancestors 23 = .ok (.ifCond .eq 22, 3) := by decide +kernel
theorem dX5_ancestors_26 : decode cX5_ancestors 26 = .ok (.aload_n 0, 1) := by decide +kernel
theorem dX5_ancestors_27 : decode cX5_ancestors 27 = .ok (.iload_n 3, 1) := by decide +kernel
theorem dX5_ancestors_28 : decode cX5_ancestors 28 = .ok (.invokevirtual 97, 3) := by decide +kernel
theorem dX5_ancestors_31 : decode cX5_ancestors 31 = .ok (.istore_n 3, 1) := by decide +kernel
theorem dX5_ancestors_32 : decode cX5_ancestors 32 = .ok (.iload_n 2, 1) := by decide +kernel
theorem dX5_ancestors_33 : decode cX5_ancestors 33 = .ok (.iload_n 3, 1) := by decide +kernel
theorem dX5_ancestors_34 : decode cX5_ancestors 34 = .ok (.invokestatic 80, 3) := by decide +kernel
theorem dX5_ancestors_37 : decode cX5_ancestors 37 = .ok (.ior, 1) := by decide +kernel
theorem dX5_ancestors_38 : decode cX5_ancestors 38 = .ok (.istore_n 2, 1) := by decide +kernel
theorem dX5_ancestors_39 : decode cX5_ancestors 39 = .ok (.iinc 4 1, 3) := by decide +kernel
theorem dX5_ancestors_42 : decode cX5_ancestors 42 = .ok (.goto (-27), 3) := by decide +kernel
theorem dX5_ancestors_45 : decode cX5_ancestors 45 = .ok (.iload_n 2, 1) := by decide +kernel
theorem dX5_ancestors_46 : decode cX5_ancestors 46 = .ok (.ireturn, 1) := by decide +kernel
theorem dX5_roomOf_0 : decode cX5_roomOf 0 = .ok (.iconst 1, 1) := by decide +kernel
theorem dX5_roomOf_1 : decode cX5_roomOf 1 = .ok (.iconst 2, 1) := by decide +kernel
theorem dX5_roomOf_2 : decode cX5_roomOf 2 = .ok (.aload_n 0, 1) := by decide +kernel
theorem dX5_roomOf_3 : decode cX5_roomOf 3 = .ok (.iload_n 1, 1) := by decide +kernel
theorem dX5_roomOf_4 : decode cX5_roomOf 4 = .ok (.invokevirtual 115, 3) := by decide +kernel
theorem dX5_roomOf_7 : decode cX5_roomOf 7 = .ok (.invokestatic 110, 3) := by decide +kernel
theorem dX5_roomOf_10 : decode cX5_roomOf 10 = .ok (.imul, 1) := by decide +kernel
theorem dX5_roomOf_11 : decode cX5_roomOf 11 = .ok (.iadd, 1) := by decide +kernel
theorem dX5_roomOf_12 : decode cX5_roomOf 12 = .ok (.ireturn, 1) := by decide +kernel
theorem dX5_room_0 : decode cX5_room 0 = .ok (.bipush 8, 2) := by decide +kernel
theorem dX5_room_2 : decode cX5_room 2 = .ok (.aload_n 0, 1) := by decide +kernel
theorem dX5_room_3 : decode cX5_room 3 = .ok (.invokevirtual 118, 3) := by decide +kernel
theorem dX5_room_6 : decode cX5_room 6 = .ok (.imul, 1) := by decide +kernel
theorem dX5_room_7 : decode cX5_room 7 = .ok (.istore_n 1, 1) := by decide +kernel
theorem dX5_room_8 : decode cX5_room 8 = .ok (.iconst 1, 1) := by decide +kernel
theorem dX5_room_9 : decode cX5_room 9 = .ok (.istore_n 2, 1) := by decide +kernel
theorem dX5_room_10 : decode cX5_room 10 = .ok (.iload_n 2, 1) := by decide +kernel
theorem dX5_room_11 : decode cX5_room 11 = .ok (.bipush 24, 2) := by decide +kernel
theorem dX5_room_13 : decode cX5_room 13 = .ok (.if_icmp .ge 25, 3) := by decide +kernel
theorem dX5_room_16 : decode cX5_room 16 = .ok (.aload_n 0, 1) := by decide +kernel
theorem dX5_room_17 : decode cX5_room 17 = .ok (.iload_n 2, 1) := by decide +kernel
theorem dX5_room_18 : decode cX5_room 18 = .ok (.invokevirtual 122, 3) := by decide +kernel
theorem dX5_room_21 : decode cX5_room 21 = .ok (.ifCond .eq 11, 3) := by decide +kernel
theorem dX5_room_24 : decode cX5_room 24 = .ok (.iload_n 1, 1) := by decide +kernel
theorem dX5_room_25 : decode cX5_room 25 = .ok (.aload_n 0, 1) := by decide +kernel
theorem dX5_room_26 : decode cX5_room 26 = .ok (.iload_n 2, 1) := by decide +kernel
theorem dX5_room_27 : decode cX5_room 27 = .ok (.invokevirtual 125, 3) := by decide +kernel
theorem dX5_room_30 : decode cX5_room 30 = .ok (.iadd, 1) := by decide +kernel
theorem dX5_room_31 : decode cX5_room 31 = .ok (.istore_n 1, 1) := by decide +kernel
theorem dX5_room_32 : decode cX5_room 32 = .ok (.iinc 2 1, 3) := by decide +kernel
theorem dX5_room_35 : decode cX5_room 35 = .ok (.goto (-25), 3) := by decide +kernel
theorem dX5_room_38 : decode cX5_room 38 = .ok (.iload_n 1, 1) := by decide +kernel
theorem dX5_room_39 : decode cX5_room 39 = .ok (.ireturn, 1) := by decide +kernel
theorem dX5_neverAsked_0 : decode cX5_neverAsked 0 = .ok (.iconst 0, 1) := by decide +kernel
theorem dX5_neverAsked_1 : decode cX5_neverAsked 1 = .ok (.istore_n 1, 1) := by decide +kernel
theorem dX5_neverAsked_2 : decode cX5_neverAsked 2 = .ok (.iconst 0, 1) := by decide +kernel
theorem dX5_neverAsked_3 : decode cX5_neverAsked 3 = .ok (.istore_n 2, 1) := by decide +kernel
theorem dX5_neverAsked_4 : decode cX5_neverAsked 4 = .ok (.iload_n 2, 1) := by decide +kernel
theorem dX5_neverAsked_5 : decode cX5_neverAsked 5 = .ok (.bipush 24, 2) := by decide +kernel
theorem dX5_neverAsked_7 : decode cX5_neverAsked 7 = .ok (.if_icmp .ge 28, 3) := by decide +kernel
theorem dX5_neverAsked_10 : decode cX5_neverAsked 10 = .ok (.aload_n 0, 1) := by decide +kernel
theorem dX5_neverAsked_11 : decode cX5_neverAsked 11 = .ok (.iload_n 2, 1) := by decide +kernel
theorem dX5_neverAsked_12 : decode cX5_neverAsked 12 = .ok (.invokevirtual 106, 3) := by decide +kernel
theorem dX5_neverAsked_15 : decode cX5_neverAsked 15 = .ok (.ifCond .eq 14, 3) := by decide +kernel
theorem dX5_neverAsked_18 : decode cX5_neverAsked 18 = .ok (.aload_n 0, 1) := by decide +kernel
theorem dX5_neverAsked_19 : decode cX5_neverAsked 19 = .ok (.iload_n 2, 1) := by decide +kernel
theorem dX5_neverAsked_20 : decode cX5_neverAsked 20 = .ok (.invokevirtual 103, 3) := by decide +kernel
theorem dX5_neverAsked_23 : decode cX5_neverAsked 23 = .ok (.ifCond .ne 6, 3) := by decide +kernel
theorem dX5_neverAsked_26 : decode cX5_neverAsked 26 = .ok (.iinc 1 1, 3) := by decide +kernel
theorem dX5_neverAsked_29 : decode cX5_neverAsked 29 = .ok (.iinc 2 1, 3) := by decide +kernel
theorem dX5_neverAsked_32 : decode cX5_neverAsked 32 = .ok (.goto (-28), 3) := by decide +kernel
theorem dX5_neverAsked_35 : decode cX5_neverAsked 35 = .ok (.iload_n 1, 1) := by decide +kernel
theorem dX5_neverAsked_36 : decode cX5_neverAsked 36 = .ok (.ireturn, 1) := by decide +kernel
theorem dX5_unlikeRows_0 : decode cX5_unlikeRows 0 = .ok (.iconst 0, 1) := by decide +kernel
theorem dX5_unlikeRows_1 : decode cX5_unlikeRows 1 = .ok (.istore_n 1, 1) := by decide +kernel
theorem dX5_unlikeRows_2 : decode cX5_unlikeRows 2 = .ok (.iconst 0, 1) := by decide +kernel
theorem dX5_unlikeRows_3 : decode cX5_unlikeRows 3 = .ok (.istore_n 2, 1) := by decide +kernel
theorem dX5_unlikeRows_4 : decode cX5_unlikeRows 4 = .ok (.iload_n 2, 1) := by decide +kernel
theorem dX5_unlikeRows_5 : decode cX5_unlikeRows 5 = .ok (.bipush 24, 2) := by decide +kernel
theorem dX5_unlikeRows_7 : decode cX5_unlikeRows 7 = .ok (.if_icmp .ge 28, 3) := by decide +kernel
theorem dX5_unlikeRows_10 : decode cX5_unlikeRows 10 = .ok (.aload_n 0, 1) := by decide +kernel
theorem dX5_unlikeRows_11 : decode cX5_unlikeRows 11 = .ok (.iload_n 2, 1) := by decide +kernel
theorem dX5_unlikeRows_12 : decode cX5_unlikeRows 12 = .ok (.invokevirtual 106, 3) := by decide +kernel
theorem dX5_unlikeRows_15 : decode cX5_unlikeRows 15 = .ok (.ifCond .eq 14, 3) := by decide +kernel
theorem dX5_unlikeRows_18 : decode cX5_unlikeRows 18 = .ok (.aload_n 0, 1) := by decide +kernel
theorem dX5_unlikeRows_19 : decode cX5_unlikeRows 19 = .ok (.iload_n 2, 1) := by decide +kernel
theorem dX5_unlikeRows_20 : decode cX5_unlikeRows 20 = .ok (.invokevirtual 128, 3) := by decide +kernel
theorem dX5_unlikeRows_23 : decode cX5_unlikeRows 23 = .ok (.ifCond .ne 6, 3) := by decide +kernel
theorem dX5_unlikeRows_26 : decode cX5_unlikeRows 26 = .ok (.iinc 1 1, 3) := by decide +kernel
theorem dX5_unlikeRows_29 : decode cX5_unlikeRows 29 = .ok (.iinc 2 1, 3) := by decide +kernel
theorem dX5_unlikeRows_32 : decode cX5_unlikeRows 32 = .ok (.goto (-28), 3) := by decide +kernel
theorem dX5_unlikeRows_35 : decode cX5_unlikeRows 35 = .ok (.iload_n 1, 1) := by decide +kernel
theorem dX5_unlikeRows_36 : decode cX5_unlikeRows 36 = .ok (.ireturn, 1) := by decide +kernel
theorem dX5_hasRowBelow_0 : decode cX5_hasRowBelow 0 = .ok (.iconst 0, 1) := by decide +kernel
theorem dX5_hasRowBelow_1 : decode cX5_hasRowBelow 1 = .ok (.istore_n 2, 1) := by decide +kernel
theorem dX5_hasRowBelow_2 : decode cX5_hasRowBelow 2 = .ok (.iload_n 2, 1) := by decide +kernel
theorem dX5_hasRowBelow_3 : decode cX5_hasRowBelow 3 = .ok (.iload_n 1, 1) := by decide +kernel
theorem dX5_hasRowBelow_4 : decode cX5_hasRowBelow 4 = .ok (.if_icmp .ge 34, 3) := by decide +kernel
theorem dX5_hasRowBelow_7 : decode cX5_hasRowBelow 7 = .ok (.iload_n 2, 1) := by decide +kernel
theorem dX5_hasRowBelow_8 : decode cX5_hasRowBelow 8 = .ok (.bipush 24, 2) := by decide +kernel
theorem dX5_hasRowBelow_10 : decode cX5_hasRowBelow 10 = .ok (.if_icmp .ge 28, 3) := by decide +kernel
theorem dX5_hasRowBelow_13 : decode cX5_hasRowBelow 13 = .ok (.aload_n 0, 1) := by decide +kernel
theorem dX5_hasRowBelow_14 : decode cX5_hasRowBelow 14 = .ok (.iload_n 2, 1) := by decide +kernel
theorem dX5_hasRowBelow_15 : decode cX5_hasRowBelow 15 = .ok (.invokevirtual 106, 3) := by decide +kernel
theorem dX5_hasRowBelow_18 : decode cX5_hasRowBelow 18 = .ok (.ifCond .eq 14, 3) := by decide +kernel
theorem dX5_hasRowBelow_21 : decode cX5_hasRowBelow 21 = .ok (.aload_n 0, 1) := by decide +kernel
theorem dX5_hasRowBelow_22 : decode cX5_hasRowBelow 22 = .ok (.iload_n 2, 1) := by decide +kernel
theorem dX5_hasRowBelow_23 : decode cX5_hasRowBelow 23 = .ok (.iload_n 1, 1) := by decide +kernel
theorem dX5_hasRowBelow_24 : decode cX5_hasRowBelow 24 = .ok (.invokevirtual 84, 3) := by decide +kernel
theorem dX5_hasRowBelow_27 : decode cX5_hasRowBelow 27 = .ok (.ifCond .ne 5, 3) := by decide +kernel
theorem dX5_hasRowBelow_30 : decode cX5_hasRowBelow 30 = .ok (.iconst 1, 1) := by decide +kernel
theorem dX5_hasRowBelow_31 : decode cX5_hasRowBelow 31 = .ok (.ireturn, 1) := by decide +kernel
theorem dX5_hasRowBelow_32 : decode cX5_hasRowBelow 32 = .ok (.iinc 2 1, 3) := by decide +kernel
theorem dX5_hasRowBelow_35 : decode cX5_hasRowBelow 35 = .ok (.goto (-33), 3) := by decide +kernel
theorem dX5_hasRowBelow_38 : decode cX5_hasRowBelow 38 = .ok (.iconst 0, 1) := by decide +kernel
theorem dX5_hasRowBelow_39 : decode cX5_hasRowBelow 39 = .ok (.ireturn, 1) := by decide +kernel
theorem dX6_init_0 : decode cX6_init 0 = .ok (.aload_n 0, 1) := by decide +kernel
theorem dX6_init_1 : decode cX6_init 1 = .ok (.invokespecial 1, 3) := by decide +kernel
theorem dX6_init_4 : decode cX6_init 4 = .ok (.aload_n 0, 1) := by decide +kernel
theorem dX6_init_5 : decode cX6_init 5 = .ok (.new 7, 3) := by decide +kernel
theorem dX6_init_8 : decode cX6_init 8 = .ok (.dup, 1) := by decide +kernel
theorem dX6_init_9 : decode cX6_init 9 = .ok (.invokespecial 9, 3) := by decide +kernel
theorem dX6_init_12 : decode cX6_init 12 = .ok (.putfield 10, 3) := by decide +kernel
theorem dX6_init_15 : decode cX6_init 15 = .ok (.aload_n 0, 1) := by decide +kernel
theorem dX6_init_16 : decode cX6_init 16 = .ok (.new 7, 3) := by decide +kernel
theorem dX6_init_19 : decode cX6_init 19 = .ok (.dup, 1) := by decide +kernel
theorem dX6_init_20 : decode cX6_init 20 = .ok (.invokespecial 9, 3) := by decide +kernel
theorem dX6_init_23 : decode cX6_init 23 = .ok (.putfield 16, 3) := by decide +kernel
theorem dX6_init_26 : decode cX6_init 26 = .ok (.aload_n 0, 1) := by decide +kernel
theorem dX6_init_27 : decode cX6_init 27 = .ok (.new 7, 3) := by decide +kernel
theorem dX6_init_30 : decode cX6_init 30 = .ok (.dup, 1) := by decide +kernel
theorem dX6_init_31 : decode cX6_init 31 = .ok (.invokespecial 9, 3) := by decide +kernel
theorem dX6_init_34 : decode cX6_init 34 = .ok (.putfield 19, 3) := by decide +kernel
theorem dX6_init_37 : decode cX6_init 37 = .ok (.aload_n 0, 1) := by decide +kernel
theorem dX6_init_38 : decode cX6_init 38 = .ok (.new 22, 3) := by decide +kernel
theorem dX6_init_41 : decode cX6_init 41 = .ok (.dup, 1) := by decide +kernel
theorem dX6_init_42 : decode cX6_init 42 = .ok (.invokespecial 24, 3) := by decide +kernel
theorem dX6_init_45 : decode cX6_init 45 = .ok (.putfield 25, 3) := by decide +kernel
theorem dX6_init_48 : decode cX6_init 48 = .ok (.aload_n 0, 1) := by decide +kernel
theorem dX6_init_49 : decode cX6_init 49 = .ok (.new 29, 3) := by decide +kernel
theorem dX6_init_52 : decode cX6_init 52 = .ok (.dup, 1) := by decide +kernel
theorem dX6_init_53 : decode cX6_init 53 = .ok (.invokespecial 31, 3) := by decide +kernel
theorem dX6_init_56 : decode cX6_init 56 = .ok (.putfield 32, 3) := by decide +kernel
theorem dX6_init_59 : decode cX6_init 59 = .ok (.aload_n 0, 1) := by decide +kernel
theorem dX6_init_60 : decode cX6_init 60 = .ok (.new 36, 3) := by decide +kernel
theorem dX6_init_63 : decode cX6_init 63 = .ok (.dup, 1) := by decide +kernel
theorem dX6_init_64 : decode cX6_init 64 = .ok (.invokespecial 38, 3) := by decide +kernel
theorem dX6_init_67 : decode cX6_init 67 = .ok (.putfield 39, 3) := by decide +kernel
theorem dX6_init_70 : decode cX6_init 70 = .ok (.return_, 1) := by decide +kernel
theorem dX6_make_0 : decode cX6_make 0 = .ok (.aload_n 0, 1) := by decide +kernel
theorem dX6_make_1 : decode cX6_make 1 = .ok (.invokevirtual 43, 3) := by decide +kernel
theorem dX6_make_4 : decode cX6_make 4 = .ok (.aload_n 0, 1) := by decide +kernel
theorem dX6_make_5 : decode cX6_make 5 = .ok (.aload_n 0, 1) := by decide +kernel
theorem dX6_make_6 : decode cX6_make 6 = .ok (.iload_n 1, 1) := by decide +kernel
theorem dX6_make_7 : decode cX6_make 7 = .ok (.iload_n 2, 1) := by decide +kernel
theorem dX6_make_8 : decode cX6_make 8 = .ok (.iload_n 3, 1) := by decide +kernel
theorem dX6_make_9 : decode cX6_make 9 = .ok (.invokevirtual 46, 3) := by decide +kernel
theorem dX6_make_12 : decode cX6_make 12 = .ok (.invokevirtual 50, 3) := by decide +kernel
theorem dX6_make_15 : decode cX6_make 15 = .ok (.ireturn, 1) := by decide +kernel
theorem dX6_mix_0 : decode cX6_mix 0 = .ok (.aload_n 0, 1) := by decide +kernel
theorem dX6_mix_1 : decode cX6_mix 1 = .ok (.invokevirtual 43, 3) := by decide +kernel
theorem dX6_mix_4 : decode cX6_mix 4 = .ok (.aload_n 0, 1) := by decide +kernel
theorem dX6_mix_5 : decode cX6_mix 5 = .ok (.aload_n 0, 1) := by decide +kernel
theorem dX6_mix_6 : decode cX6_mix 6 = .ok (.iload_n 1, 1) := by decide +kernel
theorem dX6_mix_7 : decode cX6_mix 7 = .ok (.iload_n 2, 1) := by decide +kernel
theorem dX6_mix_8 : decode cX6_mix 8 = .ok (.iload_n 3, 1) := by decide +kernel
theorem dX6_mix_9 : decode cX6_mix 9 = .ok (.invokevirtual 54, 3) := by decide +kernel
theorem dX6_mix_12 : decode cX6_mix 12 = .ok (.invokevirtual 50, 3) := by decide +kernel
theorem dX6_mix_15 : decode cX6_mix 15 = .ok (.ireturn, 1) := by decide +kernel
theorem dX6_remove_0 : decode cX6_remove 0 = .ok (.aload_n 0, 1) := by decide +kernel
theorem dX6_remove_1 : decode cX6_remove 1 = .ok (.getfield 10, 3) := by decide +kernel
theorem dX6_remove_4 : decode cX6_remove 4 = .ok (.iload_n 1, 1) := by decide +kernel
theorem dX6_remove_5 : decode cX6_remove 5 = .ok (.invokevirtual 57, 3) := by decide +kernel
theorem dX6_remove_8 : decode cX6_remove 8 = .ok (.ifCond .ne 5, 3) := by decide +kernel
theorem dX6_remove_11 : decode cX6_remove 11 = .ok (.iconst (-1), 1) := by decide +kernel
theorem dX6_remove_12 : decode cX6_remove 12 = .ok (.ireturn, 1) := by decide +kernel
theorem dX6_remove_13 : decode cX6_remove 13 = .ok (.iload_n 1, 1) := by decide +kernel
theorem dX6_remove_14 : decode cX6_remove 14 = .ok (.ifCond .eq 14, 3) := by decide +kernel
theorem dX6_remove_17 : decode cX6_remove 17 = .ok (.aload_n 0, 1) := by decide +kernel
theorem dX6_remove_18 : decode cX6_remove 18 = .ok (.getfield 10, 3) := by decide +kernel
theorem dX6_remove_21 : decode cX6_remove 21 = .ok (.iload_n 1, 1) := by decide +kernel
theorem dX6_remove_22 : decode cX6_remove 22 = .ok (.invokevirtual 61, 3) := by decide +kernel
theorem dX6_remove_25 : decode cX6_remove 25 = .ok (.ifCond .le 6, 3) := by decide +kernel
theorem dX6_remove_28 : decode cX6_remove 28 = .ok (.bipush (-4), 2) := by decide +kernel
theorem dX6_remove_30 : decode cX6_remove 30 = .ok (.ireturn, 1) := by decide +kernel
theorem dX6_remove_31 : decode cX6_remove 31 = .ok (.aload_n 0, 1) := by decide +kernel
theorem dX6_remove_32 : decode cX6_remove 32 = .ok (.invokevirtual 43, 3) := by decide +kernel
theorem dX6_remove_35 : decode cX6_remove 35 = .ok (.aload_n 0, 1) := by decide +kernel
theorem dX6_remove_36 : decode cX6_remove 36 = .ok (.getfield 10, 3) := by decide +kernel
theorem dX6_remove_39 : decode cX6_remove 39 = .ok (.iload_n 1, 1) := by decide +kernel
theorem dX6_remove_40 : decode cX6_remove 40 = .ok (.invokevirtual 64, 3) := by decide +kernel
theorem dX6_remove_43 : decode cX6_remove 43 = .ok (.ifCond .eq 29, 3) := by decide +kernel
theorem dX6_remove_46 : decode cX6_remove 46 = .ok (.aload_n 0, 1) := by decide +kernel
theorem dX6_remove_47 : decode cX6_remove 47 = .ok (.getfield 10, 3) := by decide +kernel
theorem dX6_remove_50 : decode cX6_remove 50 = .ok (.iload_n 1, 1) := by decide +kernel
theorem dX6_remove_51 : decode cX6_remove 51 = .ok (.invokevirtual 67, 3) := by decide +kernel
theorem dX6_remove_54 : decode cX6_remove 54 = .ok (.ifCond .eq 18, 3) := by decide +kernel
theorem dX6_remove_57 : decode cX6_remove 57 = .ok (.aload_n 0, 1) := by decide +kernel
theorem dX6_remove_58 : decode cX6_remove 58 = .ok (.getfield 10, 3) := by decide +kernel
theorem dX6_remove_61 : decode cX6_remove 61 = .ok (.aload_n 0, 1) := by decide +kernel
theorem dX6_remove_62 : decode cX6_remove 62 = .ok (.getfield 10, 3) := by decide +kernel
theorem dX6_remove_65 : decode cX6_remove 65 = .ok (.iload_n 1, 1) := by decide +kernel
theorem dX6_remove_66 : decode cX6_remove 66 = .ok (.invokevirtual 70, 3) := by decide +kernel
theorem dX6_remove_69 : decode cX6_remove 69 = .ok (.invokevirtual 73, 3) := by decide +kernel
theorem dX6_remove_72 : decode cX6_remove 72 = .ok (.aload_n 0, 1) := by decide +kernel
theorem dX6_remove_73 : decode cX6_remove 73 = .ok (.getfield 10, 3) := by decide +kernel
theorem dX6_remove_76 : decode cX6_remove 76 = .ok (.iload_n 1, 1) := by decide +kernel
theorem dX6_remove_77 : decode cX6_remove 77 = .ok (.invokevirtual 77, 3) := by decide +kernel
theorem dX6_remove_80 : decode cX6_remove 80 = .ok (.aload_n 0, 1) := by decide +kernel
theorem dX6_remove_81 : decode cX6_remove 81 = .ok (.aload_n 0, 1) := by decide +kernel
theorem dX6_remove_82 : decode cX6_remove 82 = .ok (.getfield 10, 3) := by decide +kernel
theorem dX6_remove_85 : decode cX6_remove 85 = .ok (.invokevirtual 80, 3) := by decide +kernel
theorem dX6_remove_88 : decode cX6_remove 88 = .ok (.invokevirtual 50, 3) := by decide +kernel
theorem dX6_remove_91 : decode cX6_remove 91 = .ok (.ireturn, 1) := by decide +kernel
theorem dX6_ask_0 : decode cX6_ask 0 = .ok (.aload_n 0, 1) := by decide +kernel
theorem dX6_ask_1 : decode cX6_ask 1 = .ok (.invokevirtual 43, 3) := by decide +kernel
theorem dX6_ask_4 : decode cX6_ask 4 = .ok (.aload_n 0, 1) := by decide +kernel
theorem dX6_ask_5 : decode cX6_ask 5 = .ok (.aload_n 0, 1) := by decide +kernel
theorem dX6_ask_6 : decode cX6_ask 6 = .ok (.iload_n 1, 1) := by decide +kernel
theorem dX6_ask_7 : decode cX6_ask 7 = .ok (.invokevirtual 84, 3) := by decide +kernel
theorem dX6_ask_10 : decode cX6_ask 10 = .ok (.invokevirtual 50, 3) := by decide +kernel
theorem dX6_ask_13 : decode cX6_ask 13 = .ok (.ireturn, 1) := by decide +kernel
theorem dX6_root_0 : decode cX6_root 0 = .ok (.aload_n 0, 1) := by decide +kernel
theorem dX6_root_1 : decode cX6_root 1 = .ok (.invokevirtual 43, 3) := by decide +kernel
theorem dX6_root_4 : decode cX6_root 4 = .ok (.aload_n 0, 1) := by decide +kernel
theorem dX6_root_5 : decode cX6_root 5 = .ok (.aload_n 0, 1) := by decide +kernel
theorem dX6_root_6 : decode cX6_root 6 = .ok (.iload_n 1, 1) := by decide +kernel
theorem dX6_root_7 : decode cX6_root 7 = .ok (.invokevirtual 87, 3) := by decide +kernel
theorem dX6_root_10 : decode cX6_root 10 = .ok (.invokevirtual 50, 3) := by decide +kernel
theorem dX6_root_13 : decode cX6_root 13 = .ok (.ireturn, 1) := by decide +kernel
theorem dX6_cut_0 : decode cX6_cut 0 = .ok (.aload_n 0, 1) := by decide +kernel
theorem dX6_cut_1 : decode cX6_cut 1 = .ok (.getfield 10, 3) := by decide +kernel
theorem dX6_cut_4 : decode cX6_cut 4 = .ok (.iload_n 1, 1) := by decide +kernel
theorem dX6_cut_5 : decode cX6_cut 5 = .ok (.invokevirtual 57, 3) := by decide +kernel
theorem dX6_cut_8 : decode cX6_cut 8 = .ok (.ifCond .ne 5, 3) := by decide +kernel
theorem dX6_cut_11 : decode cX6_cut 11 = .ok (.iconst (-1), 1) := by decide +kernel
theorem dX6_cut_12 : decode cX6_cut 12 = .ok (.ireturn, 1) := by decide +kernel
theorem dX6_cut_13 : decode cX6_cut 13 = .ok (.iload_n 1, 1) := by decide +kernel
theorem dX6_cut_14 : decode cX6_cut 14 = .ok (.ifCond .ne 6, 3) := by decide +kernel
theorem dX6_cut_17 : decode cX6_cut 17 = .ok (.bipush (-4), 2) := by decide +kernel
theorem dX6_cut_19 : decode cX6_cut 19 = .ok (.ireturn, 1) := by decide +kernel
theorem dX6_cut_20 : decode cX6_cut 20 = .ok (.aload_n 0, 1) := by decide +kernel
theorem dX6_cut_21 : decode cX6_cut 21 = .ok (.getfield 10, 3) := by decide +kernel
theorem dX6_cut_24 : decode cX6_cut 24 = .ok (.iload_n 1, 1) := by decide +kernel
theorem dX6_cut_25 : decode cX6_cut 25 = .ok (.invokevirtual 67, 3) := by decide +kernel
theorem dX6_cut_28 : decode cX6_cut 28 = .ok (.ifCond .ne 6, 3) := by decide +kernel
theorem dX6_cut_31 : decode cX6_cut 31 = .ok (.bipush (-5), 2) := by decide +kernel
theorem dX6_cut_33 : decode cX6_cut 33 = .ok (.ireturn, 1) := by decide +kernel
theorem dX6_cut_34 : decode cX6_cut 34 = .ok (.aload_n 0, 1) := by decide +kernel
theorem dX6_cut_35 : decode cX6_cut 35 = .ok (.invokevirtual 43, 3) := by decide +kernel
theorem dX6_cut_38 : decode cX6_cut 38 = .ok (.aload_n 0, 1) := by decide +kernel
theorem dX6_cut_39 : decode cX6_cut 39 = .ok (.getfield 10, 3) := by decide +kernel
theorem dX6_cut_42 : decode cX6_cut 42 = .ok (.iload_n 1, 1) := by decide +kernel
theorem dX6_cut_43 : decode cX6_cut 43 = .ok (.invokevirtual 90, 3) := by decide +kernel
theorem dX6_cut_46 : decode cX6_cut 46 = .ok (.aload_n 0, 1) := by decide +kernel
theorem dX6_cut_47 : decode cX6_cut 47 = .ok (.iload_n 1, 1) := by decide +kernel
theorem dX6_cut_48 : decode cX6_cut 48 = .ok (.aload_n 0, 1) := by decide +kernel
theorem dX6_cut_49 : decode cX6_cut 49 = .ok (.getfield 10, 3) := by decide +kernel
theorem dX6_cut_52 : decode cX6_cut 52 = .ok (.iload_n 1, 1) := by decide +kernel
theorem dX6_cut_53 : decode cX6_cut 53 = .ok (.invokevirtual 70, 3) := by decide +kernel
theorem dX6_cut_56 : decode cX6_cut 56 = .ok (.invokevirtual 93, 3) := by decide +kernel
theorem dX6_cut_59 : decode cX6_cut 59 = .ok (.aload_n 0, 1) := by decide +kernel
theorem dX6_cut_60 : decode cX6_cut 60 = .ok (.aload_n 0, 1) := by decide +kernel
theorem dX6_cut_61 : decode cX6_cut 61 = .ok (.getfield 10, 3) := by decide +kernel
theorem dX6_cut_64 : decode cX6_cut 64 = .ok (.invokevirtual 97, 3) := by decide +kernel
theorem dX6_cut_67 : decode cX6_cut 67 = .ok (.invokevirtual 50, 3) := by decide +kernel
theorem dX6_cut_70 : decode cX6_cut 70 = .ok (.ireturn, 1) := by decide +kernel
theorem dX6_join_0 : decode cX6_join 0 = .ok (.aload_n 0, 1) := by decide +kernel
theorem dX6_join_1 : decode cX6_join 1 = .ok (.invokevirtual 43, 3) := by decide +kernel
theorem dX6_join_4 : decode cX6_join 4 = .ok (.aload_n 0, 1) := by decide +kernel
theorem dX6_join_5 : decode cX6_join 5 = .ok (.aload_n 0, 1) := by decide +kernel
theorem dX6_join_6 : decode cX6_join 6 = .ok (.iload_n 1, 1) := by decide +kernel
theorem dX6_join_7 : decode cX6_join 7 = .ok (.invokevirtual 100, 3) := by decide +kernel
theorem dX6_join_10 : decode cX6_join 10 = .ok (.invokevirtual 50, 3) := by decide +kernel
theorem dX6_join_13 : decode cX6_join 13 = .ok (.ireturn, 1) := by decide +kernel
theorem dX6_set_0 : decode cX6_set 0 = .ok (.iload_n 1, 1) := by decide +kernel
theorem dX6_set_1 : decode cX6_set 1 = .ok (.ifCond .eq 10, 3) := by decide +kernel
theorem dX6_set_4 : decode cX6_set 4 = .ok (.iload_n 1, 1) := by decide +kernel
theorem dX6_set_5 : decode cX6_set 5 = .ok (.iconst 1, 1) := by decide +kernel
theorem dX6_set_6 : decode cX6_set 6 = .ok (.if_icmp .eq 5, 3) := by decide +kernel
theorem dX6_set_9 : decode cX6_set 9 = .ok (.iconst (-1), 1) := by decide +kernel
theorem dX6_set_10 : decode cX6_set 10 = .ok (.ireturn, 1) := by decide +kernel
theorem dX6_set_11 : decode cX6_set 11 = .ok (.iload_n 1, 1) := by decide +kernel
theorem dX6_set_12 : decode cX6_set 12 = .ok (.ifCond .ne 20, 3) := by decide +kernel
theorem dX6_set_15 : decode cX6_set 15 = .ok (.iload_n 2, 1) := by decide +kernel
theorem dX6_set_16 : decode cX6_set 16 = .ok (.ifCond .lt 12, 3) := by decide +kernel
theorem dX6_set_19 : decode cX6_set 19 = .ok (.iload_n 2, 1) := by decide +kernel
theorem dX6_set_20 : decode cX6_set 20 = .ok (.iconst 3, 1) := by decide +kernel
theorem dX6_set_21 : decode cX6_set 21 = .ok (.if_icmp .ge 7, 3) := by decide +kernel
theorem dX6_set_24 : decode cX6_set 24 = .ok (.iconst 1, 1) := by decide +kernel
theorem dX6_set_25 : decode cX6_set 25 = .ok (.goto 23, 3) := by decide +kernel
theorem dX6_set_28 : decode cX6_set 28 = .ok (.iconst 0, 1) := by decide +kernel
theorem dX6_set_29 : decode cX6_set 29 = .ok (.goto 19, 3) := by decide +kernel
theorem dX6_set_32 : decode cX6_set 32 = .ok (.iload_n 2, 1) := by decide +kernel
theorem dX6_set_33 : decode cX6_set 33 = .ok (.iconst 1, 1) := by decide +kernel
theorem dX6_set_34 : decode cX6_set 34 = .ok (.if_icmp .lt 13, 3) := by decide +kernel
theorem dX6_set_37 : decode cX6_set 37 = .ok (.iload_n 2, 1) := by decide +kernel
theorem dX6_set_38 : decode cX6_set 38 = .ok (.bipush 30, 2) := by decide +kernel
theorem dX6_set_40 : decode cX6_set 40 = .ok (.if_icmp .gt 7, 3) := by decide +kernel
theorem dX6_set_43 : decode cX6_set 43 = .ok (.iconst 1, 1) := by decide +kernel
theorem dX6_set_44 : decode cX6_set 44 = .ok (.goto 4, 3) := by decide +kernel
theorem dX6_set_47 : decode cX6_set 47 = .ok (.iconst 0, 1) := by decide +kernel
theorem dX6_set_48 : decode cX6_set 48 = .ok (.istore_n 3, 1) := by decide +kernel
theorem dX6_set_49 : decode cX6_set 49 = .ok (.iload_n 3, 1) := by decide +kernel
theorem dX6_set_50 : decode cX6_set 50 = .ok (.ifCond .ne 6, 3) := by decide +kernel
theorem dX6_set_53 : decode cX6_set 53 = .ok (.bipush (-2), 2) := by decide +kernel
theorem dX6_set_55 : decode cX6_set 55 = .ok (.ireturn, 1) := by decide +kernel
theorem dX6_set_56 : decode cX6_set 56 = .ok (.iload_n 1, 1) := by decide +kernel
theorem dX6_set_57 : decode cX6_set 57 = .ok (.ifCond .ne 13, 3) := by decide +kernel
theorem dX6_set_60 : decode cX6_set 60 = .ok (.aload_n 0, 1) := by decide +kernel
theorem dX6_set_61 : decode cX6_set 61 = .ok (.getfield 10, 3) := by decide +kernel
theorem dX6_set_64 : decode cX6_set 64 = .ok (.getfield 103, 3) := by decide +kernel
theorem dX6_set_67 : decode cX6_set 67 = .ok (.goto 10, 3) := by decide +kernel
theorem dX6_set_70 : decode cX6_set 70 = .ok (.aload_n 0, 1) := by decide +kernel
theorem dX6_set_71 : decode cX6_set 71 = .ok (.getfield 10, 3) := by decide +kernel
theorem dX6_set_74 : decode cX6_set 74 = .ok (.getfield 107, 3) := by decide +kernel
theorem dX6_set_77 : decode cX6_set 77 = .ok (.istore 4, 2) := by decide +kernel
theorem dX6_set_79 : decode cX6_set 79 = .ok (.iload 4, 2) := by decide +kernel
theorem dX6_set_81 : decode cX6_set 81 = .ok (.iload_n 2, 1) := by decide +kernel
theorem dX6_set_82 : decode cX6_set 82 = .ok (.if_icmp .ne 6, 3) := by decide +kernel
theorem dX6_set_85 : decode cX6_set 85 = .ok (.bipush (-5), 2) := by decide +kernel
theorem dX6_set_87 : decode cX6_set 87 = .ok (.ireturn, 1) := by decide +kernel
theorem dX6_set_88 : decode cX6_set 88 = .ok (.aload_n 0, 1) := by decide +kernel
theorem dX6_set_89 : decode cX6_set 89 = .ok (.invokevirtual 43, 3) := by decide +kernel
theorem dX6_set_92 : decode cX6_set 92 = .ok (.iload_n 1, 1) := by decide +kernel
theorem dX6_set_93 : decode cX6_set 93 = .ok (.ifCond .ne 14, 3) := by decide +kernel
theorem dX6_set_96 : decode cX6_set 96 = .ok (.aload_n 0, 1) := by decide +kernel
theorem dX6_set_97 : decode cX6_set 97 = .ok (.getfield 10, 3) := by decide +kernel
theorem dX6_set_100 : decode cX6_set 100 = .ok (.iload_n 2, 1) := by decide +kernel
theorem dX6_set_101 : decode cX6_set 101 = .ok (.putfield 103, 3) := by decide +kernel
theorem dX6_set_104 : decode cX6_set 104 = .ok (.goto 11, 3) := by decide +kernel
theorem dX6_set_107 : decode cX6_set 107 = .ok (.aload_n 0, 1) := by decide +kernel
theorem dX6_set_108 : decode cX6_set 108 = .ok (.getfield 10, 3) := by decide +kernel
theorem dX6_set_111 : decode cX6_set 111 = .ok (.iload_n 2, 1) := by decide +kernel
theorem dX6_set_112 : decode cX6_set 112 = .ok (.putfield 107, 3) := by decide +kernel
theorem dX6_set_115 : decode cX6_set 115 = .ok (.aload_n 0, 1) := by decide +kernel
theorem dX6_set_116 : decode cX6_set 116 = .ok (.iload 4, 2) := by decide +kernel
theorem dX6_set_118 : decode cX6_set 118 = .ok (.invokevirtual 50, 3) := by decide +kernel
theorem dX6_set_121 : decode cX6_set 121 = .ok (.ireturn, 1) := by decide +kernel
theorem dX6_undo_0 : decode cX6_undo 0 = .ok (.aload_n 0, 1) := by decide +kernel
theorem dX6_undo_1 : decode cX6_undo 1 = .ok (.getfield 25, 3) := by decide +kernel
theorem dX6_undo_4 : decode cX6_undo 4 = .ok (.aload_n 0, 1) := by decide +kernel
theorem dX6_undo_5 : decode cX6_undo 5 = .ok (.getfield 10, 3) := by decide +kernel
theorem dX6_undo_8 : decode cX6_undo 8 = .ok (.invokevirtual 147, 3) := by decide +kernel
theorem dX6_undo_11 : decode cX6_undo 11 = .ok (.ifCond .eq 13, 3) := by decide +kernel
theorem dX6_undo_14 : decode cX6_undo 14 = .ok (.aload_n 0, 1) := by decide +kernel
theorem dX6_undo_15 : decode cX6_undo 15 = .ok (.getfield 25, 3) := by decide +kernel
theorem dX6_undo_18 : decode cX6_undo 18 = .ok (.getfield 151, 3) := by decide +kernel
theorem dX6_undo_21 : decode cX6_undo 21 = .ok (.goto 5, 3) := by decide +kernel
theorem dX6_undo_24 : decode cX6_undo 24 = .ok (.bipush (-5), 2) := by decide +kernel
theorem dX6_undo_26 : decode cX6_undo 26 = .ok (.ireturn, 1) := by decide +kernel
theorem dX6_version_0 : decode cX6_version 0 = .ok (.aload_n 0, 1) := by decide +kernel
theorem dX6_version_1 : decode cX6_version 1 = .ok (.getfield 10, 3) := by decide +kernel
theorem dX6_version_4 : decode cX6_version 4 = .ok (.iload_n 1, 1) := by decide +kernel
theorem dX6_version_5 : decode cX6_version 5 = .ok (.invokevirtual 57, 3) := by decide +kernel
theorem dX6_version_8 : decode cX6_version 8 = .ok (.ifCond .ne 5, 3) := by decide +kernel
theorem dX6_version_11 : decode cX6_version 11 = .ok (.iconst (-1), 1) := by decide +kernel
theorem dX6_version_12 : decode cX6_version 12 = .ok (.ireturn, 1) := by decide +kernel
theorem dX6_version_13 : decode cX6_version 13 = .ok (.iload_n 2, 1) := by decide +kernel
theorem dX6_version_14 : decode cX6_version 14 = .ok (.tableswitch 108 0 7 #[46, 64, 81, 108, 108, 108, 90, 99], 46) := by decide +kernel
theorem dX6_version_60 : decode cX6_version 60 = .ok (.iload_n 1, 1) := by decide +kernel
theorem dX6_version_61 : decode cX6_version 61 = .ok (.ifCond .ne 8, 3) := by decide +kernel
theorem dX6_version_64 : decode cX6_version 64 = .ok (.bipush (-5), 2) := by decide +kernel
theorem dX6_version_66 : decode cX6_version 66 = .ok (.goto 11, 3) := by decide +kernel
theorem dX6_version_69 : decode cX6_version 69 = .ok (.aload_n 0, 1) := by decide +kernel
theorem dX6_version_70 : decode cX6_version 70 = .ok (.getfield 10, 3) := by decide +kernel
theorem dX6_version_73 : decode cX6_version 73 = .ok (.iload_n 1, 1) := by decide +kernel
theorem dX6_version_74 : decode cX6_version 74 = .ok (.invokevirtual 70, 3) := by decide +kernel
theorem dX6_version_77 : decode cX6_version 77 = .ok (.ireturn, 1) := by decide +kernel
theorem dX6_version_78 : decode cX6_version 78 = .ok (.aload_n 0, 1) := by decide +kernel
theorem dX6_version_79 : decode cX6_version 79 = .ok (.getfield 10, 3) := by decide +kernel
theorem dX6_version_82 : decode cX6_version 82 = .ok (.iload_n 1, 1) := by decide +kernel
theorem dX6_version_83 : decode cX6_version 83 = .ok (.invokevirtual 67, 3) := by decide +kernel
theorem dX6_version_86 : decode cX6_version 86 = .ok (.ifCond .eq 7, 3) := by decide +kernel
theorem dX6_version_89 : decode cX6_version 89 = .ok (.iconst 1, 1) := by decide +kernel
theorem dX6_version_90 : decode cX6_version 90 = .ok (.goto 4, 3) := by decide +kernel
theorem dX6_version_93 : decode cX6_version 93 = .ok (.iconst 0, 1) := by decide +kernel
theorem dX6_version_94 : decode cX6_version 94 = .ok (.ireturn, 1) := by decide +kernel
theorem dX6_version_95 : decode cX6_version 95 = .ok (.aload_n 0, 1) := by decide +kernel
theorem dX6_version_96 : decode cX6_version 96 = .ok (.getfield 10, 3) := by decide +kernel
theorem dX6_version_99 : decode cX6_version 99 = .ok (.iload_n 1, 1) := by decide +kernel
theorem dX6_version_100 : decode cX6_version 100 = .ok (.invokevirtual 165, 3) := by decide +kernel
theorem dX6_version_103 : decode cX6_version 103 = .ok (.ireturn, 1) := by decide +kernel
theorem dX6_version_104 : decode cX6_version 104 = .ok (.aload_n 0, 1) := by decide +kernel
theorem dX6_version_105 : decode cX6_version 105 = .ok (.getfield 10, 3) := by decide +kernel
theorem dX6_version_108 : decode cX6_version 108 = .ok (.iload_n 1, 1) := by decide +kernel
theorem dX6_version_109 : decode cX6_version 109 = .ok (.invokevirtual 168, 3) := by decide +kernel
theorem dX6_version_112 : decode cX6_version 112 = .ok (.ireturn, 1) := by decide +kernel
theorem dX6_version_113 : decode cX6_version 113 = .ok (.aload_n 0, 1) := by decide +kernel
theorem dX6_version_114 : decode cX6_version 114 = .ok (.getfield 10, 3) := by decide +kernel
theorem dX6_version_117 : decode cX6_version 117 = .ok (.iload_n 1, 1) := by decide +kernel
theorem dX6_version_118 : decode cX6_version 118 = .ok (.invokevirtual 61, 3) := by decide +kernel
theorem dX6_version_121 : decode cX6_version 121 = .ok (.ireturn, 1) := by decide +kernel
theorem dX6_version_122 : decode cX6_version 122 = .ok (.aload_n 0, 1) := by decide +kernel
theorem dX6_version_123 : decode cX6_version 123 = .ok (.iload_n 1, 1) := by decide +kernel
theorem dX6_version_124 : decode cX6_version 124 = .ok (.iload_n 2, 1) := by decide +kernel
theorem dX6_version_125 : decode cX6_version 125 = .ok (.invokevirtual 171, 3) := by decide +kernel
theorem dX6_version_128 : decode cX6_version 128 = .ok (.ireturn, 1) := by decide +kernel
theorem dX6_way_0 : decode cX6_way 0 = .ok (.aload_n 0, 1) := by decide +kernel
theorem dX6_way_1 : decode cX6_way 1 = .ok (.getfield 10, 3) := by decide +kernel
theorem dX6_way_4 : decode cX6_way 4 = .ok (.iload_n 1, 1) := by decide +kernel
theorem dX6_way_5 : decode cX6_way 5 = .ok (.invokevirtual 57, 3) := by decide +kernel
theorem dX6_way_8 : decode cX6_way 8 = .ok (.ifCond .ne 5, 3) := by decide +kernel
theorem dX6_way_11 : decode cX6_way 11 = .ok (.iconst (-1), 1) := by decide +kernel
theorem dX6_way_12 : decode cX6_way 12 = .ok (.ireturn, 1) := by decide +kernel
theorem dX6_way_13 : decode cX6_way 13 = .ok (.iload_n 2, 1) := by decide +kernel
theorem dX6_way_14 : decode cX6_way 14 = .ok (.ifCond .ge 6, 3) := by decide +kernel
theorem dX6_way_17 : decode cX6_way 17 = .ok (.bipush (-2), 2) := by decide +kernel
theorem dX6_way_19 : decode cX6_way 19 = .ok (.ireturn, 1) := by decide +kernel
theorem dX6_way_20 : decode cX6_way 20 = .ok (.aload_n 0, 1) := by decide +kernel
theorem dX6_way_21 : decode cX6_way 21 = .ok (.getfield 32, 3) := by decide +kernel
theorem dX6_way_24 : decode cX6_way 24 = .ok (.aload_n 0, 1) := by decide +kernel
theorem dX6_way_25 : decode cX6_way 25 = .ok (.getfield 10, 3) := by decide +kernel
theorem dX6_way_28 : decode cX6_way 28 = .ok (.iload_n 1, 1) := by decide +kernel
theorem dX6_way_29 : decode cX6_way 29 = .ok (.invokevirtual 174, 3) := by decide +kernel
theorem dX6_way_32 : decode cX6_way 32 = .ok (.aload_n 0, 1) := by decide +kernel
theorem dX6_way_33 : decode cX6_way 33 = .ok (.getfield 32, 3) := by decide +kernel
theorem dX6_way_36 : decode cX6_way 36 = .ok (.aload_n 0, 1) := by decide +kernel
theorem dX6_way_37 : decode cX6_way 37 = .ok (.getfield 10, 3) := by decide +kernel
theorem dX6_way_40 : decode cX6_way 40 = .ok (.invokevirtual 178, 3) := by decide +kernel
theorem dX6_way_43 : decode cX6_way 43 = .ok (.istore_n 3, 1) := by decide +kernel
theorem dX6_way_44 : decode cX6_way 44 = .ok (.iload_n 2, 1) := by decide +kernel
theorem dX6_way_45 : decode cX6_way 45 = .ok (.aload_n 0, 1) := by decide +kernel
theorem dX6_way_46 : decode cX6_way 46 = .ok (.getfield 32, 3) := by decide +kernel
theorem dX6_way_49 : decode cX6_way 49 = .ok (.iload_n 3, 1) := by decide +kernel
theorem dX6_way_50 : decode cX6_way 50 = .ok (.invokevirtual 182, 3) := by decide +kernel
theorem dX6_way_53 : decode cX6_way 53 = .ok (.if_icmp .le 8, 3) := by decide +kernel
theorem dX6_way_56 : decode cX6_way 56 = .ok (.bipush (-5), 2) := by decide +kernel
theorem dX6_way_58 : decode cX6_way 58 = .ok (.goto 12, 3) := by decide +kernel
theorem dX6_way_61 : decode cX6_way 61 = .ok (.aload_n 0, 1) := by decide +kernel
theorem dX6_way_62 : decode cX6_way 62 = .ok (.getfield 32, 3) := by decide +kernel
theorem dX6_way_65 : decode cX6_way 65 = .ok (.iload_n 3, 1) := by decide +kernel
theorem dX6_way_66 : decode cX6_way 66 = .ok (.iload_n 2, 1) := by decide +kernel
theorem dX6_way_67 : decode cX6_way 67 = .ok (.invokevirtual 185, 3) := by decide +kernel
theorem dX6_way_70 : decode cX6_way 70 = .ok (.ireturn, 1) := by decide +kernel
theorem dX6_unlike_0 : decode cX6_unlike 0 = .ok (.aload_n 0, 1) := by decide +kernel
theorem dX6_unlike_1 : decode cX6_unlike 1 = .ok (.getfield 10, 3) := by decide +kernel
theorem dX6_unlike_4 : decode cX6_unlike 4 = .ok (.iload_n 1, 1) := by decide +kernel
theorem dX6_unlike_5 : decode cX6_unlike 5 = .ok (.invokevirtual 57, 3) := by decide +kernel
theorem dX6_unlike_8 : decode cX6_unlike 8 = .ok (.ifCond .eq 14, 3) := by decide +kernel
theorem dX6_unlike_11 : decode cX6_unlike 11 = .ok (.aload_n 0, 1) := by decide +kernel
theorem dX6_unlike_12 : decode cX6_unlike 12 = .ok (.getfield 10, 3) := by decide +kernel
theorem dX6_unlike_15 : decode cX6_unlike 15 = .ok (.iload_n 2, 1) := by decide +kernel
theorem dX6_unlike_16 : decode cX6_unlike 16 = .ok (.invokevirtual 57, 3) := by decide +kernel
theorem dX6_unlike_19 : decode cX6_unlike 19 = .ok (.ifCond .ne 5, 3) := by decide +kernel
theorem dX6_unlike_22 : decode cX6_unlike 22 = .ok (.iconst (-1), 1) := by decide +kernel
theorem dX6_unlike_23 : decode cX6_unlike 23 = .ok (.ireturn, 1) := by decide +kernel
theorem dX6_unlike_24 : decode cX6_unlike 24 = .ok (.aload_n 0, 1) := by decide +kernel
theorem dX6_unlike_25 : decode cX6_unlike 25 = .ok (.getfield 10, 3) := by decide +kernel
theorem dX6_unlike_28 : decode cX6_unlike 28 = .ok (.iload_n 1, 1) := by decide +kernel
theorem dX6_unlike_29 : decode cX6_unlike 29 = .ok (.iload_n 2, 1) := by decide +kernel
theorem dX6_unlike_30 : decode cX6_unlike 30 = .ok (.invokevirtual 188, 3) := by decide +kernel
theorem dX6_unlike_33 : decode cX6_unlike 33 = .ok (.invokestatic 191, 3) := by decide +kernel
theorem dX6_unlike_36 : decode cX6_unlike 36 = .ok (.ireturn, 1) := by decide +kernel
theorem dX6_common_0 : decode cX6_common 0 = .ok (.aload_n 0, 1) := by decide +kernel
theorem dX6_common_1 : decode cX6_common 1 = .ok (.getfield 10, 3) := by decide +kernel
theorem dX6_common_4 : decode cX6_common 4 = .ok (.iload_n 1, 1) := by decide +kernel
theorem dX6_common_5 : decode cX6_common 5 = .ok (.invokevirtual 57, 3) := by decide +kernel
theorem dX6_common_8 : decode cX6_common 8 = .ok (.ifCond .eq 14, 3) := by decide +kernel
theorem dX6_common_11 : decode cX6_common 11 = .ok (.aload_n 0, 1) := by decide +kernel
theorem dX6_common_12 : decode cX6_common 12 = .ok (.getfield 10, 3) := by decide +kernel
theorem dX6_common_15 : decode cX6_common 15 = .ok (.iload_n 2, 1) := by decide +kernel
theorem dX6_common_16 : decode cX6_common 16 = .ok (.invokevirtual 57, 3) := by decide +kernel
theorem dX6_common_19 : decode cX6_common 19 = .ok (.ifCond .ne 5, 3) := by decide +kernel
theorem dX6_common_22 : decode cX6_common 22 = .ok (.iconst (-1), 1) := by decide +kernel
theorem dX6_common_23 : decode cX6_common 23 = .ok (.ireturn, 1) := by decide +kernel
theorem dX6_common_24 : decode cX6_common 24 = .ok (.aload_n 0, 1) := by decide +kernel
theorem dX6_common_25 : decode cX6_common 25 = .ok (.getfield 10, 3) := by decide +kernel
theorem dX6_common_28 : decode cX6_common 28 = .ok (.iload_n 2, 1) := by decide +kernel
theorem dX6_common_29 : decode cX6_common 29 = .ok (.invokevirtual 196, 3) := by decide +kernel
theorem dX6_common_32 : decode cX6_common 32 = .ok (.istore_n 3, 1) := by decide +kernel
theorem dX6_common_33 : decode cX6_common 33 = .ok (.iload_n 1, 1) := by decide +kernel
theorem dX6_common_34 : decode cX6_common 34 = .ok (.istore 4, 2) := by decide +kernel
theorem dX6_common_36 : decode cX6_common 36 = .ok (.iconst 0, 1) := by decide +kernel
theorem dX6_common_37 : decode cX6_common 37 = .ok (.istore 5, 2) := by decide +kernel
theorem dX6_common_39 : decode cX6_common 39 = .ok (.iload 5, 2) := by decide +kernel
theorem dX6_common_41 : decode cX6_common 41 = .ok (.bipush 24, 2) := by decide +kernel
theorem dX6_common_43 : decode cX6_common 43 = .ok (.if_icmp .ge 29, 3) := by decide +kernel
theorem dX6_common_46 : decode cX6_common 46 = .ok (.iload_n 3, 1) := by decide +kernel
theorem dX6_common_47 : decode cX6_common 47 = .ok (.iload 4, 2) := by decide +kernel
theorem dX6_common_49 : decode cX6_common 49 = .ok (.invokestatic 199, 3) := by decide +kernel
theorem dX6_common_52 : decode cX6_common 52 = .ok (.ifCond .ne 20, 3) := by decide +kernel
theorem dX6_common_55 : decode cX6_common 55 = .ok (.aload_n 0, 1) := by decide +kernel
theorem dX6_common_56 : decode cX6_common 56 = .ok (.getfield 10, 3) := by decide +kernel
theorem dX6_common_59 : decode cX6_common 59 = .ok (.iload 4, 2) := by decide +kernel
theorem dX6_common_61 : decode cX6_common 61 = .ok (.invokevirtual 70, 3) := by decide +kernel
theorem dX6_common_64 : decode cX6_common 64 = .ok (.istore 4, 2) := by decide +kernel
theorem dX6_common_66 : decode cX6_common 66 = .ok (.iinc 5 1, 3) := by decide +kernel
theorem dX6_common_69 : decode cX6_common 69 = .ok (.goto (-30), 3) := by decide +kernel
theorem dX6_common_72 : decode cX6_common 72 = .ok (.iload 4, 2) := by decide +kernel
theorem dX6_common_74 : decode cX6_common 74 = .ok (.ireturn, 1) := by decide +kernel
theorem dX6_ifRoot_0 : decode cX6_ifRoot 0 = .ok (.aload_n 0, 1) := by decide +kernel
theorem dX6_ifRoot_1 : decode cX6_ifRoot 1 = .ok (.getfield 10, 3) := by decide +kernel
theorem dX6_ifRoot_4 : decode cX6_ifRoot 4 = .ok (.iload_n 1, 1) := by decide +kernel
theorem dX6_ifRoot_5 : decode cX6_ifRoot 5 = .ok (.invokevirtual 57, 3) := by decide +kernel
theorem dX6_ifRoot_8 : decode cX6_ifRoot 8 = .ok (.ifCond .eq 11, 3) := by decide +kernel
theorem dX6_ifRoot_11 : decode cX6_ifRoot 11 = .ok (.aload_n 0, 1) := by decide +kernel
theorem dX6_ifRoot_12 : decode cX6_ifRoot 12 = .ok (.iload_n 1, 1) := by decide +kernel
theorem dX6_ifRoot_13 : decode cX6_ifRoot 13 = .ok (.invokevirtual 205, 3) := by decide +kernel
theorem dX6_ifRoot_16 : decode cX6_ifRoot 16 = .ok (.goto 4, 3) := by decide +kernel
theorem dX6_ifRoot_19 : decode cX6_ifRoot 19 = .ok (.iconst (-1), 1) := by decide +kernel
theorem dX6_ifRoot_20 : decode cX6_ifRoot 20 = .ok (.ireturn, 1) := by decide +kernel
theorem dX6_bestRoot_0 : decode cX6_bestRoot 0 = .ok (.aload_n 0, 1) := by decide +kernel
theorem dX6_bestRoot_1 : decode cX6_bestRoot 1 = .ok (.getfield 10, 3) := by decide +kernel
theorem dX6_bestRoot_4 : decode cX6_bestRoot 4 = .ok (.iload_n 1, 1) := by decide +kernel
theorem dX6_bestRoot_5 : decode cX6_bestRoot 5 = .ok (.invokevirtual 57, 3) := by decide +kernel
theorem dX6_bestRoot_8 : decode cX6_bestRoot 8 = .ok (.ifCond .ne 5, 3) := by decide +kernel
theorem dX6_bestRoot_11 : decode cX6_bestRoot 11 = .ok (.iconst (-1), 1) := by decide +kernel
theorem dX6_bestRoot_12 : decode cX6_bestRoot 12 = .ok (.ireturn, 1) := by decide +kernel
theorem dX6_bestRoot_13 : decode cX6_bestRoot 13 = .ok (.aload_n 0, 1) := by decide +kernel
theorem dX6_bestRoot_14 : decode cX6_bestRoot 14 = .ok (.getfield 32, 3) := by decide +kernel
theorem dX6_bestRoot_17 : decode cX6_bestRoot 17 = .ok (.aload_n 0, 1) := by decide +kernel
theorem dX6_bestRoot_18 : decode cX6_bestRoot 18 = .ok (.getfield 10, 3) := by decide +kernel
theorem dX6_bestRoot_21 : decode cX6_bestRoot 21 = .ok (.iload_n 1, 1) := by decide +kernel
theorem dX6_bestRoot_22 : decode cX6_bestRoot 22 = .ok (.invokevirtual 174, 3) := by decide +kernel
theorem dX6_bestRoot_25 : decode cX6_bestRoot 25 = .ok (.aload_n 0, 1) := by decide +kernel
theorem dX6_bestRoot_26 : decode cX6_bestRoot 26 = .ok (.getfield 32, 3) := by decide +kernel
theorem dX6_bestRoot_29 : decode cX6_bestRoot 29 = .ok (.getfield 208, 3) := by decide +kernel
theorem dX6_bestRoot_32 : decode cX6_bestRoot 32 = .ok (.istore_n 2, 1) := by decide +kernel
theorem dX6_bestRoot_33 : decode cX6_bestRoot 33 = .ok (.iload_n 1, 1) := by decide +kernel
theorem dX6_bestRoot_34 : decode cX6_bestRoot 34 = .ok (.istore_n 3, 1) := by decide +kernel
theorem dX6_bestRoot_35 : decode cX6_bestRoot 35 = .ok (.aload_n 0, 1) := by decide +kernel
theorem dX6_bestRoot_36 : decode cX6_bestRoot 36 = .ok (.iload_n 1, 1) := by decide +kernel
theorem dX6_bestRoot_37 : decode cX6_bestRoot 37 = .ok (.invokevirtual 205, 3) := by decide +kernel
theorem dX6_bestRoot_40 : decode cX6_bestRoot 40 = .ok (.istore 4, 2) := by decide +kernel
theorem dX6_bestRoot_42 : decode cX6_bestRoot 42 = .ok (.iconst 0, 1) := by decide +kernel
theorem dX6_bestRoot_43 : decode cX6_bestRoot 43 = .ok (.istore 5, 2) := by decide +kernel
theorem dX6_bestRoot_45 : decode cX6_bestRoot 45 = .ok (.iload 5, 2) := by decide +kernel
theorem dX6_bestRoot_47 : decode cX6_bestRoot 47 = .ok (.bipush 24, 2) := by decide +kernel
theorem dX6_bestRoot_49 : decode cX6_bestRoot 49 = .ok (.if_icmp .ge 53, 3) := by decide +kernel
theorem dX6_bestRoot_52 : decode cX6_bestRoot 52 = .ok (.iload_n 2, 1) := by decide +kernel
theorem dX6_bestRoot_53 : decode cX6_bestRoot 53 = .ok (.iload 5, 2) := by decide +kernel
theorem dX6_bestRoot_55 : decode cX6_bestRoot 55 = .ok (.invokestatic 199, 3) := by decide +kernel
theorem dX6_bestRoot_58 : decode cX6_bestRoot 58 = .ok (.ifCond .eq 38, 3) := by decide +kernel
theorem dX6_bestRoot_61 : decode cX6_bestRoot 61 = .ok (.aload_n 0, 1) := by decide +kernel
theorem dX6_bestRoot_62 : decode cX6_bestRoot 62 = .ok (.iload 5, 2) := by decide +kernel
theorem dX6_bestRoot_64 : decode cX6_bestRoot 64 = .ok (.invokevirtual 205, 3) := by decide +kernel
theorem dX6_bestRoot_67 : decode cX6_bestRoot 67 = .ok (.istore 6, 2) := by decide +kernel
theorem dX6_bestRoot_69 : decode cX6_bestRoot 69 = .ok (.iload 6, 2) := by decide +kernel
theorem dX6_bestRoot_71 : decode cX6_bestRoot 71 = .ok (.iload 4, 2) := by decide +kernel
theorem dX6_bestRoot_73 : decode cX6_bestRoot 73 = .ok (.if_icmp .lt 16, 3) := by decide +kernel
theorem dX6_bestRoot_76 : decode cX6_bestRoot 76 = .ok (.iload 6, 2) := by decide +kernel
theorem dX6_bestRoot_78 : decode cX6_bestRoot 78 = .ok (.iload 4, 2) := by decide +kernel
theorem dX6_bestRoot_80 : decode cX6_bestRoot 80 = .ok (.if_icmp .ne 16, 3) := by decide +kernel
theorem dX6_bestRoot_83 : decode cX6_bestRoot 83 = .ok (.iload 5, 2) := by decide +kernel
theorem dX6_bestRoot_85 : decode cX6_bestRoot 85 = .ok (.iload_n 3, 1) := by decide +kernel
theorem dX6_bestRoot_86 : decode cX6_bestRoot 86 = .ok (.if_icmp .ge 10, 3) := by decide +kernel
theorem dX6_bestRoot_89 : decode cX6_bestRoot 89 = .ok (.iload 5, 2) := by decide +kernel
theorem dX6_bestRoot_91 : decode cX6_bestRoot 91 = .ok (.istore_n 3, 1) := by decide +kernel
theorem dX6_bestRoot_92 : decode cX6_bestRoot 92 = .ok (.iload 6, 2) := by decide +kernel
theorem dX6_bestRoot_94 : decode cX6_bestRoot 94 = .ok (.istore 4, 2) := by decide +kernel
theorem dX6_bestRoot_96 : decode cX6_bestRoot 96 = .ok (.iinc 5 1, 3) := by decide +kernel
theorem dX6_bestRoot_99 : decode cX6_bestRoot 99 = .ok (.goto (-54), 3) := by decide +kernel
theorem dX6_bestRoot_102 : decode cX6_bestRoot 102 = .ok (.iload_n 3, 1) := by decide +kernel
theorem dX6_bestRoot_103 : decode cX6_bestRoot 103 = .ok (.ireturn, 1) := by decide +kernel
theorem dX6_ifCut_0 : decode cX6_ifCut 0 = .ok (.aload_n 0, 1) := by decide +kernel
theorem dX6_ifCut_1 : decode cX6_ifCut 1 = .ok (.getfield 10, 3) := by decide +kernel
theorem dX6_ifCut_4 : decode cX6_ifCut 4 = .ok (.iload_n 1, 1) := by decide +kernel
theorem dX6_ifCut_5 : decode cX6_ifCut 5 = .ok (.invokevirtual 57, 3) := by decide +kernel
theorem dX6_ifCut_8 : decode cX6_ifCut 8 = .ok (.ifCond .ne 5, 3) := by decide +kernel
theorem dX6_ifCut_11 : decode cX6_ifCut 11 = .ok (.iconst (-1), 1) := by decide +kernel
theorem dX6_ifCut_12 : decode cX6_ifCut 12 = .ok (.ireturn, 1) := by decide +kernel
theorem dX6_ifCut_13 : decode cX6_ifCut 13 = .ok (.iload_n 1, 1) := by decide +kernel
theorem dX6_ifCut_14 : decode cX6_ifCut 14 = .ok (.ifCond .ne 6, 3) := by decide +kernel
theorem dX6_ifCut_17 : decode cX6_ifCut 17 = .ok (.bipush (-4), 2) := by decide +kernel
theorem dX6_ifCut_19 : decode cX6_ifCut 19 = .ok (.ireturn, 1) := by decide +kernel
theorem dX6_ifCut_20 : decode cX6_ifCut 20 = .ok (.bipush 8, 2) := by decide +kernel
theorem dX6_ifCut_22 : decode cX6_ifCut 22 = .ok (.aload_n 0, 1) := by decide +kernel
theorem dX6_ifCut_23 : decode cX6_ifCut 23 = .ok (.getfield 10, 3) := by decide +kernel
theorem dX6_ifCut_26 : decode cX6_ifCut 26 = .ok (.iload_n 1, 1) := by decide +kernel
theorem dX6_ifCut_27 : decode cX6_ifCut 27 = .ok (.invokevirtual 211, 3) := by decide +kernel
theorem dX6_ifCut_30 : decode cX6_ifCut 30 = .ok (.isub, 1) := by decide +kernel
theorem dX6_ifCut_31 : decode cX6_ifCut 31 = .ok (.istore_n 2, 1) := by decide +kernel
theorem dX6_ifCut_32 : decode cX6_ifCut 32 = .ok (.aload_n 0, 1) := by decide +kernel
theorem dX6_ifCut_33 : decode cX6_ifCut 33 = .ok (.getfield 10, 3) := by decide +kernel
theorem dX6_ifCut_36 : decode cX6_ifCut 36 = .ok (.iload_n 1, 1) := by decide +kernel
theorem dX6_ifCut_37 : decode cX6_ifCut 37 = .ok (.invokevirtual 67, 3) := by decide +kernel
theorem dX6_ifCut_40 : decode cX6_ifCut 40 = .ok (.ifCond .eq 15, 3) := by decide +kernel
theorem dX6_ifCut_43 : decode cX6_ifCut 43 = .ok (.aload_n 0, 1) := by decide +kernel
theorem dX6_ifCut_44 : decode cX6_ifCut 44 = .ok (.getfield 10, 3) := by decide +kernel
theorem dX6_ifCut_47 : decode cX6_ifCut 47 = .ok (.invokevirtual 214, 3) := by decide +kernel
theorem dX6_ifCut_50 : decode cX6_ifCut 50 = .ok (.iload_n 2, 1) := by decide +kernel
theorem dX6_ifCut_51 : decode cX6_ifCut 51 = .ok (.iadd, 1) := by decide +kernel
theorem dX6_ifCut_52 : decode cX6_ifCut 52 = .ok (.goto 12, 3) := by decide +kernel
theorem dX6_ifCut_55 : decode cX6_ifCut 55 = .ok (.aload_n 0, 1) := by decide +kernel
theorem dX6_ifCut_56 : decode cX6_ifCut 56 = .ok (.getfield 10, 3) := by decide +kernel
theorem dX6_ifCut_59 : decode cX6_ifCut 59 = .ok (.invokevirtual 214, 3) := by decide +kernel
theorem dX6_ifCut_62 : decode cX6_ifCut 62 = .ok (.iload_n 2, 1) := by decide +kernel
theorem dX6_ifCut_63 : decode cX6_ifCut 63 = .ok (.isub, 1) := by decide +kernel
theorem dX6_ifCut_64 : decode cX6_ifCut 64 = .ok (.ireturn, 1) := by decide +kernel
theorem dX6_count_0 : decode cX6_count 0 = .ok (.iload_n 1, 1) := by decide +kernel
theorem dX6_count_1 : decode cX6_count 1 = .ok (.tableswitch 192 0 14 #[75, 83, 91, 99, 107, 115, 123, 131, 136, 144, 152, 160, 168, 176, 184], 75) := by decide +kernel
theorem dX6_count_76 : decode cX6_count 76 = .ok (.aload_n 0, 1) := by decide +kernel
theorem dX6_count_77 : decode cX6_count 77 = .ok (.getfield 10, 3) := by decide +kernel
theorem dX6_count_80 : decode cX6_count 80 = .ok (.invokevirtual 80, 3) := by decide +kernel
theorem dX6_count_83 : decode cX6_count 83 = .ok (.ireturn, 1) := by decide +kernel
theorem dX6_count_84 : decode cX6_count 84 = .ok (.aload_n 0, 1) := by decide +kernel
theorem dX6_count_85 : decode cX6_count 85 = .ok (.getfield 10, 3) := by decide +kernel
theorem dX6_count_88 : decode cX6_count 88 = .ok (.invokevirtual 97, 3) := by decide +kernel
theorem dX6_count_91 : decode cX6_count 91 = .ok (.ireturn, 1) := by decide +kernel
theorem dX6_count_92 : decode cX6_count 92 = .ok (.aload_n 0, 1) := by decide +kernel
theorem dX6_count_93 : decode cX6_count 93 = .ok (.getfield 10, 3) := by decide +kernel
theorem dX6_count_96 : decode cX6_count 96 = .ok (.invokevirtual 214, 3) := by decide +kernel
theorem dX6_count_99 : decode cX6_count 99 = .ok (.ireturn, 1) := by decide +kernel
theorem dX6_count_100 : decode cX6_count 100 = .ok (.aload_n 0, 1) := by decide +kernel
theorem dX6_count_101 : decode cX6_count 101 = .ok (.getfield 10, 3) := by decide +kernel
theorem dX6_count_104 : decode cX6_count 104 = .ok (.getfield 217, 3) := by decide +kernel
theorem dX6_count_107 : decode cX6_count 107 = .ok (.ireturn, 1) := by decide +kernel
theorem dX6_count_108 : decode cX6_count 108 = .ok (.aload_n 0, 1) := by decide +kernel
theorem dX6_count_109 : decode cX6_count 109 = .ok (.getfield 10, 3) := by decide +kernel
theorem dX6_count_112 : decode cX6_count 112 = .ok (.getfield 220, 3) := by decide +kernel
theorem dX6_count_115 : decode cX6_count 115 = .ok (.ireturn, 1) := by decide +kernel
theorem dX6_count_116 : decode cX6_count 116 = .ok (.aload_n 0, 1) := by decide +kernel
theorem dX6_count_117 : decode cX6_count 117 = .ok (.getfield 10, 3) := by decide +kernel
theorem dX6_count_120 : decode cX6_count 120 = .ok (.invokevirtual 223, 3) := by decide +kernel
theorem dX6_count_123 : decode cX6_count 123 = .ok (.ireturn, 1) := by decide +kernel
theorem dX6_count_124 : decode cX6_count 124 = .ok (.aload_n 0, 1) := by decide +kernel
theorem dX6_count_125 : decode cX6_count 125 = .ok (.getfield 10, 3) := by decide +kernel
theorem dX6_count_128 : decode cX6_count 128 = .ok (.invokevirtual 226, 3) := by decide +kernel
theorem dX6_count_131 : decode cX6_count 131 = .ok (.ireturn, 1) := by decide +kernel
theorem dX6_count_132 : decode cX6_count 132 = .ok (.aload_n 0, 1) := by decide +kernel
theorem dX6_count_133 : decode cX6_count 133 = .ok (.invokevirtual 229, 3) := by decide +kernel
theorem dX6_count_136 : decode cX6_count 136 = .ok (.ireturn, 1) := by decide +kernel
theorem dX6_count_137 : decode cX6_count 137 = .ok (.aload_n 0, 1) := by decide +kernel
theorem dX6_count_138 : decode cX6_count 138 = .ok (.getfield 10, 3) := by decide +kernel
theorem dX6_count_141 : decode cX6_count 141 = .ok (.getfield 232, 3) := by decide +kernel
theorem dX6_count_144 : decode cX6_count 144 = .ok (.ireturn, 1) := by decide +kernel
theorem dX6_count_145 : decode cX6_count 145 = .ok (.aload_n 0, 1) := by decide +kernel
theorem dX6_count_146 : decode cX6_count 146 = .ok (.getfield 10, 3) := by decide +kernel
theorem dX6_count_149 : decode cX6_count 149 = .ok (.getfield 235, 3) := by decide +kernel
theorem dX6_count_152 : decode cX6_count 152 = .ok (.ireturn, 1) := by decide +kernel
theorem dX6_count_153 : decode cX6_count 153 = .ok (.aload_n 0, 1) := by decide +kernel
theorem dX6_count_154 : decode cX6_count 154 = .ok (.getfield 10, 3) := by decide +kernel
theorem dX6_count_157 : decode cX6_count 157 = .ok (.getfield 103, 3) := by decide +kernel
theorem dX6_count_160 : decode cX6_count 160 = .ok (.ireturn, 1) := by decide +kernel
theorem dX6_count_161 : decode cX6_count 161 = .ok (.aload_n 0, 1) := by decide +kernel
theorem dX6_count_162 : decode cX6_count 162 = .ok (.getfield 10, 3) := by decide +kernel
theorem dX6_count_165 : decode cX6_count 165 = .ok (.getfield 107, 3) := by decide +kernel
theorem dX6_count_168 : decode cX6_count 168 = .ok (.ireturn, 1) := by decide +kernel
theorem dX6_count_169 : decode cX6_count 169 = .ok (.aload_n 0, 1) := by decide +kernel
theorem dX6_count_170 : decode cX6_count 170 = .ok (.getfield 10, 3) := by decide +kernel
theorem dX6_count_173 : decode cX6_count 173 = .ok (.invokevirtual 238, 3) := by decide +kernel
theorem dX6_count_176 : decode cX6_count 176 = .ok (.ireturn, 1) := by decide +kernel
theorem dX6_count_177 : decode cX6_count 177 = .ok (.aload_n 0, 1) := by decide +kernel
theorem dX6_count_178 : decode cX6_count 178 = .ok (.getfield 25, 3) := by decide +kernel
theorem dX6_count_181 : decode cX6_count 181 = .ok (.getfield 151, 3) := by decide +kernel
theorem dX6_count_184 : decode cX6_count 184 = .ok (.ireturn, 1) := by decide +kernel
theorem dX6_count_185 : decode cX6_count 185 = .ok (.aload_n 0, 1) := by decide +kernel
theorem dX6_count_186 : decode cX6_count 186 = .ok (.getfield 39, 3) := by decide +kernel
theorem dX6_count_189 : decode cX6_count 189 = .ok (.getfield 114, 3) := by decide +kernel
theorem dX6_count_192 : decode cX6_count 192 = .ok (.ireturn, 1) := by decide +kernel
theorem dX6_count_193 : decode cX6_count 193 = .ok (.bipush (-2), 2) := by decide +kernel
theorem dX6_count_195 : decode cX6_count 195 = .ok (.ireturn, 1) := by decide +kernel
theorem dX6_beginAct_0 : decode cX6_beginAct 0 = .ok (.aload_n 0, 1) := by decide +kernel
theorem dX6_beginAct_1 : decode cX6_beginAct 1 = .ok (.getfield 16, 3) := by decide +kernel
theorem dX6_beginAct_4 : decode cX6_beginAct 4 = .ok (.aload_n 0, 1) := by decide +kernel
theorem dX6_beginAct_5 : decode cX6_beginAct 5 = .ok (.getfield 10, 3) := by decide +kernel
theorem dX6_beginAct_8 : decode cX6_beginAct 8 = .ok (.invokevirtual 152, 3) := by decide +kernel
theorem dX6_beginAct_11 : decode cX6_beginAct 11 = .ok (.return_, 1) := by decide +kernel
theorem dX6_endAct_0 : decode cX6_endAct 0 = .ok (.iload_n 1, 1) := by decide +kernel
theorem dX6_endAct_1 : decode cX6_endAct 1 = .ok (.ifCond .lt 14, 3) := by decide +kernel
theorem dX6_endAct_4 : decode cX6_endAct 4 = .ok (.aload_n 0, 1) := by decide +kernel
theorem dX6_endAct_5 : decode cX6_endAct 5 = .ok (.getfield 25, 3) := by decide +kernel
theorem dX6_endAct_8 : decode cX6_endAct 8 = .ok (.aload_n 0, 1) := by decide +kernel
theorem dX6_endAct_9 : decode cX6_endAct 9 = .ok (.getfield 16, 3) := by decide +kernel
theorem dX6_endAct_12 : decode cX6_endAct 12 = .ok (.invokevirtual 241, 3) := by decide +kernel
theorem dX6_endAct_15 : decode cX6_endAct 15 = .ok (.iload_n 1, 1) := by decide +kernel
theorem dX6_endAct_16 : decode cX6_endAct 16 = .ok (.ireturn, 1) := by decide +kernel
theorem dX6_tryMake_0 : decode cX6_tryMake 0 = .ok (.aload_n 0, 1) := by decide +kernel
theorem dX6_tryMake_1 : decode cX6_tryMake 1 = .ok (.getfield 10, 3) := by decide +kernel
theorem dX6_tryMake_4 : decode cX6_tryMake 4 = .ok (.iload_n 1, 1) := by decide +kernel
theorem dX6_tryMake_5 : decode cX6_tryMake 5 = .ok (.invokevirtual 57, 3) := by decide +kernel
theorem dX6_tryMake_8 : decode cX6_tryMake 8 = .ok (.ifCond .eq 10, 3) := by decide +kernel
theorem dX6_tryMake_11 : decode cX6_tryMake 11 = .ok (.iload_n 2, 1) := by decide +kernel
theorem dX6_tryMake_12 : decode cX6_tryMake 12 = .ok (.invokestatic 159, 3) := by decide +kernel
theorem dX6_tryMake_15 : decode cX6_tryMake 15 = .ok (.ifCond .ne 5, 3) := by decide +kernel
theorem dX6_tryMake_18 : decode cX6_tryMake 18 = .ok (.iconst (-1), 1) := by decide +kernel
theorem dX6_tryMake_19 : decode cX6_tryMake 19 = .ok (.ireturn, 1) := by decide +kernel
theorem dX6_tryMake_20 : decode cX6_tryMake 20 = .ok (.iload_n 3, 1) := by decide +kernel
theorem dX6_tryMake_21 : decode cX6_tryMake 21 = .ok (.ifCond .lt 9, 3) := by decide +kernel
theorem dX6_tryMake_24 : decode cX6_tryMake 24 = .ok (.iload_n 3, 1) := by decide +kernel
theorem dX6_tryMake_25 : decode cX6_tryMake 25 = .ok (.bipush 9, 2) := by decide +kernel
theorem dX6_tryMake_27 : decode cX6_tryMake 27 = .ok (.if_icmp .le 6, 3) := by decide +kernel
theorem dX6_tryMake_30 : decode cX6_tryMake 30 = .ok (.bipush (-2), 2) := by decide +kernel
theorem dX6_tryMake_32 : decode cX6_tryMake 32 = .ok (.ireturn, 1) := by decide +kernel
theorem dX6_tryMake_33 : decode cX6_tryMake 33 = .ok (.aload_n 0, 1) := by decide +kernel
theorem dX6_tryMake_34 : decode cX6_tryMake 34 = .ok (.getfield 10, 3) := by decide +kernel
theorem dX6_tryMake_37 : decode cX6_tryMake 37 = .ok (.invokevirtual 244, 3) := by decide +kernel
theorem dX6_tryMake_40 : decode cX6_tryMake 40 = .ok (.istore 4, 2) := by decide +kernel
theorem dX6_tryMake_42 : decode cX6_tryMake 42 = .ok (.iload 4, 2) := by decide +kernel
theorem dX6_tryMake_44 : decode cX6_tryMake 44 = .ok (.bipush 24, 2) := by decide +kernel
theorem dX6_tryMake_46 : decode cX6_tryMake 46 = .ok (.if_icmp .ne 6, 3) := by decide +kernel
theorem dX6_tryMake_49 : decode cX6_tryMake 49 = .ok (.bipush (-3), 2) := by decide +kernel
theorem dX6_tryMake_51 : decode cX6_tryMake 51 = .ok (.ireturn, 1) := by decide +kernel
theorem dX6_tryMake_52 : decode cX6_tryMake 52 = .ok (.aload_n 0, 1) := by decide +kernel
theorem dX6_tryMake_53 : decode cX6_tryMake 53 = .ok (.getfield 10, 3) := by decide +kernel
theorem dX6_tryMake_56 : decode cX6_tryMake 56 = .ok (.iload_n 1, 1) := by decide +kernel
theorem dX6_tryMake_57 : decode cX6_tryMake 57 = .ok (.iload 4, 2) := by decide +kernel
theorem dX6_tryMake_59 : decode cX6_tryMake 59 = .ok (.sipush 255, 3) := by decide +kernel
theorem dX6_tryMake_62 : decode cX6_tryMake 62 = .ok (.invokevirtual 247, 3) := by decide +kernel
theorem dX6_tryMake_65 : decode cX6_tryMake 65 = .ok (.aload_n 0, 1) := by decide +kernel
theorem dX6_tryMake_66 : decode cX6_tryMake 66 = .ok (.getfield 10, 3) := by decide +kernel
theorem dX6_tryMake_69 : decode cX6_tryMake 69 = .ok (.iload 4, 2) := by decide +kernel
theorem dX6_tryMake_71 : decode cX6_tryMake 71 = .ok (.iload_n 2, 1) := by decide +kernel
theorem dX6_tryMake_72 : decode cX6_tryMake 72 = .ok (.iload_n 3, 1) := by decide +kernel
theorem dX6_tryMake_73 : decode cX6_tryMake 73 = .ok (.invokevirtual 251, 3) := by decide +kernel
theorem dX6_tryMake_76 : decode cX6_tryMake 76 = .ok (.aload_n 0, 1) := by decide +kernel
theorem dX6_tryMake_77 : decode cX6_tryMake 77 = .ok (.getfield 10, 3) := by decide +kernel
theorem dX6_tryMake_80 : decode cX6_tryMake 80 = .ok (.iload 4, 2) := by decide +kernel
theorem dX6_tryMake_82 : decode cX6_tryMake 82 = .ok (.iload_n 1, 1) := by decide +kernel
theorem dX6_tryMake_83 : decode cX6_tryMake 83 = .ok (.invokevirtual 254, 3) := by decide +kernel
theorem dX6_tryMake_86 : decode cX6_tryMake 86 = .ok (.iload 4, 2) := by decide +kernel
theorem dX6_tryMake_88 : decode cX6_tryMake 88 = .ok (.ireturn, 1) := by decide +kernel
theorem dX6_tryMix_0 : decode cX6_tryMix 0 = .ok (.aload_n 0, 1) := by decide +kernel
theorem dX6_tryMix_1 : decode cX6_tryMix 1 = .ok (.getfield 10, 3) := by decide +kernel
theorem dX6_tryMix_4 : decode cX6_tryMix 4 = .ok (.iload_n 1, 1) := by decide +kernel
theorem dX6_tryMix_5 : decode cX6_tryMix 5 = .ok (.invokevirtual 57, 3) := by decide +kernel
theorem dX6_tryMix_8 : decode cX6_tryMix 8 = .ok (.ifCond .eq 14, 3) := by decide +kernel
theorem dX6_tryMix_11 : decode cX6_tryMix 11 = .ok (.aload_n 0, 1) := by decide +kernel
theorem dX6_tryMix_12 : decode cX6_tryMix 12 = .ok (.getfield 10, 3) := by decide +kernel
theorem dX6_tryMix_15 : decode cX6_tryMix 15 = .ok (.iload_n 2, 1) := by decide +kernel
theorem dX6_tryMix_16 : decode cX6_tryMix 16 = .ok (.invokevirtual 57, 3) := by decide +kernel
theorem dX6_tryMix_19 : decode cX6_tryMix 19 = .ok (.ifCond .ne 5, 3) := by decide +kernel
theorem dX6_tryMix_22 : decode cX6_tryMix 22 = .ok (.iconst (-1), 1) := by decide +kernel
theorem dX6_tryMix_23 : decode cX6_tryMix 23 = .ok (.ireturn, 1) := by decide +kernel
theorem dX6_tryMix_24 : decode cX6_tryMix 24 = .ok (.iload_n 3, 1) := by decide +kernel
theorem dX6_tryMix_25 : decode cX6_tryMix 25 = .ok (.iconst 1, 1) := by decide +kernel
theorem dX6_tryMix_26 : decode cX6_tryMix 26 = .ok (.if_icmp .lt 10, 3) := by decide +kernel
theorem dX6_tryMix_29 : decode cX6_tryMix 29 = .ok (.iload_n 3, 1) := by decide +kernel
theorem dX6_tryMix_30 : decode cX6_tryMix 30 = .ok (.sipush 255, 3) := by decide +kernel
theorem dX6_tryMix_33 : decode cX6_tryMix 33 = .ok (.if_icmp .le 6, 3) := by decide +kernel
theorem dX6_tryMix_36 : decode cX6_tryMix 36 = .ok (.bipush (-2), 2) := by decide +kernel
theorem dX6_tryMix_38 : decode cX6_tryMix 38 = .ok (.ireturn, 1) := by decide +kernel
theorem dX6_tryMix_39 : decode cX6_tryMix 39 = .ok (.aload_n 0, 1) := by decide +kernel
theorem dX6_tryMix_40 : decode cX6_tryMix 40 = .ok (.getfield 10, 3) := by decide +kernel
theorem dX6_tryMix_43 : decode cX6_tryMix 43 = .ok (.invokevirtual 244, 3) := by decide +kernel
theorem dX6_tryMix_46 : decode cX6_tryMix 46 = .ok (.istore 4, 2) := by decide +kernel
theorem dX6_tryMix_48 : decode cX6_tryMix 48 = .ok (.iload 4, 2) := by decide +kernel
theorem dX6_tryMix_50 : decode cX6_tryMix 50 = .ok (.bipush 24, 2) := by decide +kernel
theorem dX6_tryMix_52 : decode cX6_tryMix 52 = .ok (.if_icmp .ne 6, 3) := by decide +kernel
theorem dX6_tryMix_55 : decode cX6_tryMix 55 = .ok (.bipush (-3), 2) := by decide +kernel
theorem dX6_tryMix_57 : decode cX6_tryMix 57 = .ok (.ireturn, 1) := by decide +kernel
theorem dX6_tryMix_58 : decode cX6_tryMix 58 = .ok (.aload_n 0, 1) := by decide +kernel
theorem dX6_tryMix_59 : decode cX6_tryMix 59 = .ok (.getfield 10, 3) := by decide +kernel
theorem dX6_tryMix_62 : decode cX6_tryMix 62 = .ok (.iload_n 1, 1) := by decide +kernel
theorem dX6_tryMix_63 : decode cX6_tryMix 63 = .ok (.iload 4, 2) := by decide +kernel
theorem dX6_tryMix_65 : decode cX6_tryMix 65 = .ok (.sipush 255, 3) := by decide +kernel
theorem dX6_tryMix_68 : decode cX6_tryMix 68 = .ok (.invokevirtual 247, 3) := by decide +kernel
theorem dX6_tryMix_71 : decode cX6_tryMix 71 = .ok (.aload_n 0, 1) := by decide +kernel
theorem dX6_tryMix_72 : decode cX6_tryMix 72 = .ok (.getfield 10, 3) := by decide +kernel
theorem dX6_tryMix_75 : decode cX6_tryMix 75 = .ok (.iload_n 2, 1) := by decide +kernel
theorem dX6_tryMix_76 : decode cX6_tryMix 76 = .ok (.iload 4, 2) := by decide +kernel
theorem dX6_tryMix_78 : decode cX6_tryMix 78 = .ok (.iload_n 3, 1) := by decide +kernel
theorem dX6_tryMix_79 : decode cX6_tryMix 79 = .ok (.invokevirtual 247, 3) := by decide +kernel
theorem dX6_tryMix_82 : decode cX6_tryMix 82 = .ok (.aload_n 0, 1) := by decide +kernel
theorem dX6_tryMix_83 : decode cX6_tryMix 83 = .ok (.getfield 10, 3) := by decide +kernel
theorem dX6_tryMix_86 : decode cX6_tryMix 86 = .ok (.iload 4, 2) := by decide +kernel
theorem dX6_tryMix_88 : decode cX6_tryMix 88 = .ok (.iload_n 1, 1) := by decide +kernel
theorem dX6_tryMix_89 : decode cX6_tryMix 89 = .ok (.invokevirtual 254, 3) := by decide +kernel
theorem dX6_tryMix_92 : decode cX6_tryMix 92 = .ok (.iload 4, 2) := by decide +kernel
theorem dX6_tryMix_94 : decode cX6_tryMix 94 = .ok (.ireturn, 1) := by decide +kernel
theorem dX6_tryAsk_0 : decode cX6_tryAsk 0 = .ok (.aload_n 0, 1) := by decide +kernel
theorem dX6_tryAsk_1 : decode cX6_tryAsk 1 = .ok (.getfield 10, 3) := by decide +kernel
theorem dX6_tryAsk_4 : decode cX6_tryAsk 4 = .ok (.iload_n 1, 1) := by decide +kernel
theorem dX6_tryAsk_5 : decode cX6_tryAsk 5 = .ok (.invokevirtual 57, 3) := by decide +kernel
theorem dX6_tryAsk_8 : decode cX6_tryAsk 8 = .ok (.ifCond .ne 5, 3) := by decide +kernel
theorem dX6_tryAsk_11 : decode cX6_tryAsk 11 = .ok (.iconst (-1), 1) := by decide +kernel
theorem dX6_tryAsk_12 : decode cX6_tryAsk 12 = .ok (.ireturn, 1) := by decide +kernel
theorem dX6_tryAsk_13 : decode cX6_tryAsk 13 = .ok (.aload_n 0, 1) := by decide +kernel
theorem dX6_tryAsk_14 : decode cX6_tryAsk 14 = .ok (.getfield 32, 3) := by decide +kernel
theorem dX6_tryAsk_17 : decode cX6_tryAsk 17 = .ok (.aload_n 0, 1) := by decide +kernel
theorem dX6_tryAsk_18 : decode cX6_tryAsk 18 = .ok (.getfield 10, 3) := by decide +kernel
theorem dX6_tryAsk_21 : decode cX6_tryAsk 21 = .ok (.iload_n 1, 1) := by decide +kernel
theorem dX6_tryAsk_22 : decode cX6_tryAsk 22 = .ok (.invokevirtual 174, 3) := by decide +kernel
theorem dX6_tryAsk_25 : decode cX6_tryAsk 25 = .ok (.aload_n 0, 1) := by decide +kernel
theorem dX6_tryAsk_26 : decode cX6_tryAsk 26 = .ok (.getfield 32, 3) := by decide +kernel
theorem dX6_tryAsk_29 : decode cX6_tryAsk 29 = .ok (.aload_n 0, 1) := by decide +kernel
theorem dX6_tryAsk_30 : decode cX6_tryAsk 30 = .ok (.getfield 10, 3) := by decide +kernel
theorem dX6_tryAsk_33 : decode cX6_tryAsk 33 = .ok (.invokevirtual 178, 3) := by decide +kernel
theorem dX6_tryAsk_36 : decode cX6_tryAsk 36 = .ok (.istore_n 2, 1) := by decide +kernel
theorem dX6_tryAsk_37 : decode cX6_tryAsk 37 = .ok (.aload_n 0, 1) := by decide +kernel
theorem dX6_tryAsk_38 : decode cX6_tryAsk 38 = .ok (.getfield 32, 3) := by decide +kernel
theorem dX6_tryAsk_41 : decode cX6_tryAsk 41 = .ok (.iload_n 2, 1) := by decide +kernel
theorem dX6_tryAsk_42 : decode cX6_tryAsk 42 = .ok (.invokevirtual 182, 3) := by decide +kernel
theorem dX6_tryAsk_45 : decode cX6_tryAsk 45 = .ok (.istore_n 3, 1) := by decide +kernel
theorem dX6_tryAsk_46 : decode cX6_tryAsk 46 = .ok (.iconst 1, 1) := by decide +kernel
theorem dX6_tryAsk_47 : decode cX6_tryAsk 47 = .ok (.aload_n 0, 1) := by decide +kernel
theorem dX6_tryAsk_48 : decode cX6_tryAsk 48 = .ok (.getfield 32, 3) := by decide +kernel
theorem dX6_tryAsk_51 : decode cX6_tryAsk 51 = .ok (.iload_n 2, 1) := by decide +kernel
theorem dX6_tryAsk_52 : decode cX6_tryAsk 52 = .ok (.invokevirtual 257, 3) := by decide +kernel
theorem dX6_tryAsk_55 : decode cX6_tryAsk 55 = .ok (.iadd, 1) := by decide +kernel
theorem dX6_tryAsk_56 : decode cX6_tryAsk 56 = .ok (.istore 4, 2) := by decide +kernel
theorem dX6_tryAsk_58 : decode cX6_tryAsk 58 = .ok (.aload_n 0, 1) := by decide +kernel
theorem dX6_tryAsk_59 : decode cX6_tryAsk 59 = .ok (.getfield 10, 3) := by decide +kernel
theorem dX6_tryAsk_62 : decode cX6_tryAsk 62 = .ok (.iload_n 1, 1) := by decide +kernel
theorem dX6_tryAsk_63 : decode cX6_tryAsk 63 = .ok (.iload 4, 2) := by decide +kernel
theorem dX6_tryAsk_65 : decode cX6_tryAsk 65 = .ok (.invokevirtual 260, 3) := by decide +kernel
theorem dX6_tryAsk_68 : decode cX6_tryAsk 68 = .ok (.iload_n 3, 1) := by decide +kernel
theorem dX6_tryAsk_69 : decode cX6_tryAsk 69 = .ok (.aload_n 0, 1) := by decide +kernel
theorem dX6_tryAsk_70 : decode cX6_tryAsk 70 = .ok (.getfield 10, 3) := by decide +kernel
theorem dX6_tryAsk_73 : decode cX6_tryAsk 73 = .ok (.getfield 107, 3) := by decide +kernel
theorem dX6_tryAsk_76 : decode cX6_tryAsk 76 = .ok (.if_icmp .le 46, 3) := by decide +kernel
theorem dX6_tryAsk_79 : decode cX6_tryAsk 79 = .ok (.aload_n 0, 1) := by decide +kernel
theorem dX6_tryAsk_80 : decode cX6_tryAsk 80 = .ok (.getfield 10, 3) := by decide +kernel
theorem dX6_tryAsk_83 : decode cX6_tryAsk 83 = .ok (.iload_n 1, 1) := by decide +kernel
theorem dX6_tryAsk_84 : decode cX6_tryAsk 84 = .ok (.aload_n 0, 1) := by decide +kernel
theorem dX6_tryAsk_85 : decode cX6_tryAsk 85 = .ok (.getfield 32, 3) := by decide +kernel
theorem dX6_tryAsk_88 : decode cX6_tryAsk 88 = .ok (.iload_n 2, 1) := by decide +kernel
theorem dX6_tryAsk_89 : decode cX6_tryAsk 89 = .ok (.iload_n 3, 1) := by decide +kernel
theorem dX6_tryAsk_90 : decode cX6_tryAsk 90 = .ok (.iconst 1, 1) := by decide +kernel
theorem dX6_tryAsk_91 : decode cX6_tryAsk 91 = .ok (.isub, 1) := by decide +kernel
theorem dX6_tryAsk_92 : decode cX6_tryAsk 92 = .ok (.invokevirtual 185, 3) := by decide +kernel
theorem dX6_tryAsk_95 : decode cX6_tryAsk 95 = .ok (.invokevirtual 263, 3) := by decide +kernel
theorem dX6_tryAsk_98 : decode cX6_tryAsk 98 = .ok (.aload_n 0, 1) := by decide +kernel
theorem dX6_tryAsk_99 : decode cX6_tryAsk 99 = .ok (.getfield 10, 3) := by decide +kernel
theorem dX6_tryAsk_102 : decode cX6_tryAsk 102 = .ok (.iload_n 1, 1) := by decide +kernel
theorem dX6_tryAsk_103 : decode cX6_tryAsk 103 = .ok (.invokevirtual 73, 3) := by decide +kernel
theorem dX6_tryAsk_106 : decode cX6_tryAsk 106 = .ok (.aload_n 0, 1) := by decide +kernel
theorem dX6_tryAsk_107 : decode cX6_tryAsk 107 = .ok (.getfield 10, 3) := by decide +kernel
theorem dX6_tryAsk_110 : decode cX6_tryAsk 110 = .ok (.dup, 1) := by decide +kernel
theorem dX6_tryAsk_111 : decode cX6_tryAsk 111 = .ok (.getfield 235, 3) := by decide +kernel
theorem dX6_tryAsk_114 : decode cX6_tryAsk 114 = .ok (.iconst 1, 1) := by decide +kernel
theorem dX6_tryAsk_115 : decode cX6_tryAsk 115 = .ok (.iadd, 1) := by decide +kernel
theorem dX6_tryAsk_116 : decode cX6_tryAsk 116 = .ok (.putfield 235, 3) := by decide +kernel
theorem dX6_tryAsk_119 : decode cX6_tryAsk 119 = .ok (.goto 39, 3) := by decide +kernel
theorem dX6_tryAsk_122 : decode cX6_tryAsk 122 = .ok (.iload_n 2, 1) := by decide +kernel
theorem dX6_tryAsk_123 : decode cX6_tryAsk 123 = .ok (.iload_n 1, 1) := by decide +kernel
theorem dX6_tryAsk_124 : decode cX6_tryAsk 124 = .ok (.if_icmp .eq 34, 3) := by decide +kernel
theorem dX6_tryAsk_127 : decode cX6_tryAsk 127 = .ok (.aload_n 0, 1) := by decide +kernel
theorem dX6_tryAsk_128 : decode cX6_tryAsk 128 = .ok (.iload_n 1, 1) := by decide +kernel
theorem dX6_tryAsk_129 : decode cX6_tryAsk 129 = .ok (.iload_n 2, 1) := by decide +kernel
theorem dX6_tryAsk_130 : decode cX6_tryAsk 130 = .ok (.invokevirtual 266, 3) := by decide +kernel
theorem dX6_tryAsk_133 : decode cX6_tryAsk 133 = .ok (.ifCond .eq 25, 3) := by decide +kernel
theorem dX6_tryAsk_136 : decode cX6_tryAsk 136 = .ok (.aload_n 0, 1) := by decide +kernel
theorem dX6_tryAsk_137 : decode cX6_tryAsk 137 = .ok (.getfield 10, 3) := by decide +kernel
theorem dX6_tryAsk_140 : decode cX6_tryAsk 140 = .ok (.iload_n 2, 1) := by decide +kernel
theorem dX6_tryAsk_141 : decode cX6_tryAsk 141 = .ok (.iload_n 1, 1) := by decide +kernel
theorem dX6_tryAsk_142 : decode cX6_tryAsk 142 = .ok (.invokevirtual 269, 3) := by decide +kernel
theorem dX6_tryAsk_145 : decode cX6_tryAsk 145 = .ok (.aload_n 0, 1) := by decide +kernel
theorem dX6_tryAsk_146 : decode cX6_tryAsk 146 = .ok (.getfield 10, 3) := by decide +kernel
theorem dX6_tryAsk_149 : decode cX6_tryAsk 149 = .ok (.dup, 1) := by decide +kernel
theorem dX6_tryAsk_150 : decode cX6_tryAsk 150 = .ok (.getfield 232, 3) := by decide +kernel
theorem dX6_tryAsk_153 : decode cX6_tryAsk 153 = .ok (.iconst 1, 1) := by decide +kernel
theorem dX6_tryAsk_154 : decode cX6_tryAsk 154 = .ok (.iadd, 1) := by decide +kernel
theorem dX6_tryAsk_155 : decode cX6_tryAsk 155 = .ok (.putfield 232, 3) := by decide +kernel
theorem dX6_tryAsk_158 : decode cX6_tryAsk 158 = .ok (.iload 4, 2) := by decide +kernel
theorem dX6_tryAsk_160 : decode cX6_tryAsk 160 = .ok (.ireturn, 1) := by decide +kernel
theorem dX6_rulePrefers_0 : decode cX6_rulePrefers 0 = .ok (.aload_n 0, 1) := by decide +kernel
theorem dX6_rulePrefers_1 : decode cX6_rulePrefers 1 = .ok (.getfield 10, 3) := by decide +kernel
theorem dX6_rulePrefers_4 : decode cX6_rulePrefers 4 = .ok (.getfield 103, 3) := by decide +kernel
theorem dX6_rulePrefers_7 : decode cX6_rulePrefers 7 = .ok (.ifCond .ne 5, 3) := by decide +kernel
theorem dX6_rulePrefers_10 : decode cX6_rulePrefers 10 = .ok (.iconst 0, 1) := by decide +kernel
theorem dX6_rulePrefers_11 : decode cX6_rulePrefers 11 = .ok (.ireturn, 1) := by decide +kernel
theorem dX6_rulePrefers_12 : decode cX6_rulePrefers 12 = .ok (.aload_n 0, 1) := by decide +kernel
theorem dX6_rulePrefers_13 : decode cX6_rulePrefers 13 = .ok (.getfield 10, 3) := by decide +kernel
theorem dX6_rulePrefers_16 : decode cX6_rulePrefers 16 = .ok (.getfield 103, 3) := by decide +kernel
theorem dX6_rulePrefers_19 : decode cX6_rulePrefers 19 = .ok (.iconst 1, 1) := by decide +kernel
theorem dX6_rulePrefers_20 : decode cX6_rulePrefers 20 = .ok (.if_icmp .eq 22, 3) := by decide +kernel
theorem dX6_rulePrefers_23 : decode cX6_rulePrefers 23 = .ok (.aload_n 0, 1) := by decide +kernel
theorem dX6_rulePrefers_24 : decode cX6_rulePrefers 24 = .ok (.getfield 10, 3) := by decide +kernel
theorem dX6_rulePrefers_27 : decode cX6_rulePrefers 27 = .ok (.iload_n 1, 1) := by decide +kernel
theorem dX6_rulePrefers_28 : decode cX6_rulePrefers 28 = .ok (.invokevirtual 168, 3) := by decide +kernel
theorem dX6_rulePrefers_31 : decode cX6_rulePrefers 31 = .ok (.aload_n 0, 1) := by decide +kernel
theorem dX6_rulePrefers_32 : decode cX6_rulePrefers 32 = .ok (.getfield 10, 3) := by decide +kernel
theorem dX6_rulePrefers_35 : decode cX6_rulePrefers 35 = .ok (.iload_n 2, 1) := by decide +kernel
theorem dX6_rulePrefers_36 : decode cX6_rulePrefers 36 = .ok (.invokevirtual 168, 3) := by decide +kernel
theorem dX6_rulePrefers_39 : decode cX6_rulePrefers 39 = .ok (.if_icmp .le 7, 3) := by decide +kernel
theorem dX6_rulePrefers_42 : decode cX6_rulePrefers 42 = .ok (.iconst 1, 1) := by decide +kernel
theorem dX6_rulePrefers_43 : decode cX6_rulePrefers 43 = .ok (.goto 4, 3) := by decide +kernel
theorem dX6_rulePrefers_46 : decode cX6_rulePrefers 46 = .ok (.iconst 0, 1) := by decide +kernel
theorem dX6_rulePrefers_47 : decode cX6_rulePrefers 47 = .ok (.ireturn, 1) := by decide +kernel
theorem dX6_tryRoot_0 : decode cX6_tryRoot 0 = .ok (.aload_n 0, 1) := by decide +kernel
theorem dX6_tryRoot_1 : decode cX6_tryRoot 1 = .ok (.getfield 10, 3) := by decide +kernel
theorem dX6_tryRoot_4 : decode cX6_tryRoot 4 = .ok (.iload_n 1, 1) := by decide +kernel
theorem dX6_tryRoot_5 : decode cX6_tryRoot 5 = .ok (.invokevirtual 57, 3) := by decide +kernel
theorem dX6_tryRoot_8 : decode cX6_tryRoot 8 = .ok (.ifCond .ne 5, 3) := by decide +kernel
theorem dX6_tryRoot_11 : decode cX6_tryRoot 11 = .ok (.iconst (-1), 1) := by decide +kernel
theorem dX6_tryRoot_12 : decode cX6_tryRoot 12 = .ok (.ireturn, 1) := by decide +kernel
theorem dX6_tryRoot_13 : decode cX6_tryRoot 13 = .ok (.aload_n 0, 1) := by decide +kernel
theorem dX6_tryRoot_14 : decode cX6_tryRoot 14 = .ok (.getfield 10, 3) := by decide +kernel
theorem dX6_tryRoot_17 : decode cX6_tryRoot 17 = .ok (.iload_n 1, 1) := by decide +kernel
theorem dX6_tryRoot_18 : decode cX6_tryRoot 18 = .ok (.invokevirtual 64, 3) := by decide +kernel
theorem dX6_tryRoot_21 : decode cX6_tryRoot 21 = .ok (.ifCond .eq 6, 3) := by decide +kernel
theorem dX6_tryRoot_24 : decode cX6_tryRoot 24 = .ok (.bipush (-5), 2) := by decide +kernel
theorem dX6_tryRoot_26 : decode cX6_tryRoot 26 = .ok (.ireturn, 1) := by decide +kernel
theorem dX6_tryRoot_27 : decode cX6_tryRoot 27 = .ok (.aload_n 0, 1) := by decide +kernel
theorem dX6_tryRoot_28 : decode cX6_tryRoot 28 = .ok (.getfield 32, 3) := by decide +kernel
theorem dX6_tryRoot_31 : decode cX6_tryRoot 31 = .ok (.aload_n 0, 1) := by decide +kernel
theorem dX6_tryRoot_32 : decode cX6_tryRoot 32 = .ok (.getfield 10, 3) := by decide +kernel
theorem dX6_tryRoot_35 : decode cX6_tryRoot 35 = .ok (.iload_n 1, 1) := by decide +kernel
theorem dX6_tryRoot_36 : decode cX6_tryRoot 36 = .ok (.invokevirtual 174, 3) := by decide +kernel
theorem dX6_tryRoot_39 : decode cX6_tryRoot 39 = .ok (.aload_n 0, 1) := by decide +kernel
theorem dX6_tryRoot_40 : decode cX6_tryRoot 40 = .ok (.getfield 32, 3) := by decide +kernel
theorem dX6_tryRoot_43 : decode cX6_tryRoot 43 = .ok (.aload_n 0, 1) := by decide +kernel
theorem dX6_tryRoot_44 : decode cX6_tryRoot 44 = .ok (.getfield 10, 3) := by decide +kernel
theorem dX6_tryRoot_47 : decode cX6_tryRoot 47 = .ok (.invokevirtual 178, 3) := by decide +kernel
theorem dX6_tryRoot_50 : decode cX6_tryRoot 50 = .ok (.istore_n 2, 1) := by decide +kernel
theorem dX6_tryRoot_51 : decode cX6_tryRoot 51 = .ok (.aload_n 0, 1) := by decide +kernel
theorem dX6_tryRoot_52 : decode cX6_tryRoot 52 = .ok (.getfield 10, 3) := by decide +kernel
theorem dX6_tryRoot_55 : decode cX6_tryRoot 55 = .ok (.iload_n 2, 1) := by decide +kernel
theorem dX6_tryRoot_56 : decode cX6_tryRoot 56 = .ok (.iload_n 1, 1) := by decide +kernel
theorem dX6_tryRoot_57 : decode cX6_tryRoot 57 = .ok (.invokevirtual 269, 3) := by decide +kernel
theorem dX6_tryRoot_60 : decode cX6_tryRoot 60 = .ok (.aload_n 0, 1) := by decide +kernel
theorem dX6_tryRoot_61 : decode cX6_tryRoot 61 = .ok (.getfield 32, 3) := by decide +kernel
theorem dX6_tryRoot_64 : decode cX6_tryRoot 64 = .ok (.iload_n 2, 1) := by decide +kernel
theorem dX6_tryRoot_65 : decode cX6_tryRoot 65 = .ok (.invokevirtual 182, 3) := by decide +kernel
theorem dX6_tryRoot_68 : decode cX6_tryRoot 68 = .ok (.ireturn, 1) := by decide +kernel
theorem dX6_tryJoin_0 : decode cX6_tryJoin 0 = .ok (.aload_n 0, 1) := by decide +kernel
theorem dX6_tryJoin_1 : decode cX6_tryJoin 1 = .ok (.getfield 10, 3) := by decide +kernel
theorem dX6_tryJoin_4 : decode cX6_tryJoin 4 = .ok (.iload_n 1, 1) := by decide +kernel
theorem dX6_tryJoin_5 : decode cX6_tryJoin 5 = .ok (.invokevirtual 57, 3) := by decide +kernel
theorem dX6_tryJoin_8 : decode cX6_tryJoin 8 = .ok (.ifCond .ne 5, 3) := by decide +kernel
theorem dX6_tryJoin_11 : decode cX6_tryJoin 11 = .ok (.iconst (-1), 1) := by decide +kernel
theorem dX6_tryJoin_12 : decode cX6_tryJoin 12 = .ok (.ireturn, 1) := by decide +kernel
theorem dX6_tryJoin_13 : decode cX6_tryJoin 13 = .ok (.iload_n 1, 1) := by decide +kernel
theorem dX6_tryJoin_14 : decode cX6_tryJoin 14 = .ok (.ifCond .ne 6, 3) := by decide +kernel
theorem dX6_tryJoin_17 : decode cX6_tryJoin 17 = .ok (.bipush (-4), 2) := by decide +kernel
theorem dX6_tryJoin_19 : decode cX6_tryJoin 19 = .ok (.ireturn, 1) := by decide +kernel
theorem dX6_tryJoin_20 : decode cX6_tryJoin 20 = .ok (.aload_n 0, 1) := by decide +kernel
theorem dX6_tryJoin_21 : decode cX6_tryJoin 21 = .ok (.getfield 10, 3) := by decide +kernel
theorem dX6_tryJoin_24 : decode cX6_tryJoin 24 = .ok (.iload_n 1, 1) := by decide +kernel
theorem dX6_tryJoin_25 : decode cX6_tryJoin 25 = .ok (.invokevirtual 67, 3) := by decide +kernel
theorem dX6_tryJoin_28 : decode cX6_tryJoin 28 = .ok (.ifCond .eq 6, 3) := by decide +kernel
theorem dX6_tryJoin_31 : decode cX6_tryJoin 31 = .ok (.bipush (-5), 2) := by decide +kernel
theorem dX6_tryJoin_33 : decode cX6_tryJoin 33 = .ok (.ireturn, 1) := by decide +kernel
theorem dX6_tryJoin_34 : decode cX6_tryJoin 34 = .ok (.aload_n 0, 1) := by decide +kernel
theorem dX6_tryJoin_35 : decode cX6_tryJoin 35 = .ok (.getfield 32, 3) := by decide +kernel
theorem dX6_tryJoin_38 : decode cX6_tryJoin 38 = .ok (.aload_n 0, 1) := by decide +kernel
theorem dX6_tryJoin_39 : decode cX6_tryJoin 39 = .ok (.getfield 10, 3) := by decide +kernel
theorem dX6_tryJoin_42 : decode cX6_tryJoin 42 = .ok (.iload_n 1, 1) := by decide +kernel
theorem dX6_tryJoin_43 : decode cX6_tryJoin 43 = .ok (.invokevirtual 174, 3) := by decide +kernel
theorem dX6_tryJoin_46 : decode cX6_tryJoin 46 = .ok (.aload_n 0, 1) := by decide +kernel
theorem dX6_tryJoin_47 : decode cX6_tryJoin 47 = .ok (.getfield 10, 3) := by decide +kernel
theorem dX6_tryJoin_50 : decode cX6_tryJoin 50 = .ok (.aload_n 0, 1) := by decide +kernel
theorem dX6_tryJoin_51 : decode cX6_tryJoin 51 = .ok (.getfield 32, 3) := by decide +kernel
theorem dX6_tryJoin_54 : decode cX6_tryJoin 54 = .ok (.aload_n 0, 1) := by decide +kernel
theorem dX6_tryJoin_55 : decode cX6_tryJoin 55 = .ok (.getfield 10, 3) := by decide +kernel
theorem dX6_tryJoin_58 : decode cX6_tryJoin 58 = .ok (.invokevirtual 178, 3) := by decide +kernel
theorem dX6_tryJoin_61 : decode cX6_tryJoin 61 = .ok (.invokevirtual 272, 3) := by decide +kernel
theorem dX6_tryJoin_64 : decode cX6_tryJoin 64 = .ok (.aload_n 0, 1) := by decide +kernel
theorem dX6_tryJoin_65 : decode cX6_tryJoin 65 = .ok (.getfield 10, 3) := by decide +kernel
theorem dX6_tryJoin_68 : decode cX6_tryJoin 68 = .ok (.iload_n 1, 1) := by decide +kernel
theorem dX6_tryJoin_69 : decode cX6_tryJoin 69 = .ok (.invokevirtual 275, 3) := by decide +kernel
theorem dX6_tryJoin_72 : decode cX6_tryJoin 72 = .ok (.aload_n 0, 1) := by decide +kernel
theorem dX6_tryJoin_73 : decode cX6_tryJoin 73 = .ok (.getfield 10, 3) := by decide +kernel
theorem dX6_tryJoin_76 : decode cX6_tryJoin 76 = .ok (.invokevirtual 97, 3) := by decide +kernel
theorem dX6_tryJoin_79 : decode cX6_tryJoin 79 = .ok (.ireturn, 1) := by decide +kernel
theorem dX6_giveRoot_0 : decode cX6_giveRoot 0 = .ok (.aload_n 0, 1) := by decide +kernel
theorem dX6_giveRoot_1 : decode cX6_giveRoot 1 = .ok (.getfield 32, 3) := by decide +kernel
theorem dX6_giveRoot_4 : decode cX6_giveRoot 4 = .ok (.aload_n 0, 1) := by decide +kernel
theorem dX6_giveRoot_5 : decode cX6_giveRoot 5 = .ok (.getfield 10, 3) := by decide +kernel
theorem dX6_giveRoot_8 : decode cX6_giveRoot 8 = .ok (.iload_n 1, 1) := by decide +kernel
theorem dX6_giveRoot_9 : decode cX6_giveRoot 9 = .ok (.invokevirtual 174, 3) := by decide +kernel
theorem dX6_giveRoot_12 : decode cX6_giveRoot 12 = .ok (.aload_n 0, 1) := by decide +kernel
theorem dX6_giveRoot_13 : decode cX6_giveRoot 13 = .ok (.getfield 32, 3) := by decide +kernel
theorem dX6_giveRoot_16 : decode cX6_giveRoot 16 = .ok (.getfield 208, 3) := by decide +kernel
theorem dX6_giveRoot_19 : decode cX6_giveRoot 19 = .ok (.aload_n 0, 1) := by decide +kernel
theorem dX6_giveRoot_20 : decode cX6_giveRoot 20 = .ok (.getfield 10, 3) := by decide +kernel
theorem dX6_giveRoot_23 : decode cX6_giveRoot 23 = .ok (.getfield 278, 3) := by decide +kernel
theorem dX6_giveRoot_26 : decode cX6_giveRoot 26 = .ok (.iand, 1) := by decide +kernel
theorem dX6_giveRoot_27 : decode cX6_giveRoot 27 = .ok (.ifCond .eq 7, 3) := by decide +kernel
theorem dX6_giveRoot_30 : decode cX6_giveRoot 30 = .ok (.iconst 1, 1) := by decide +kernel
theorem dX6_giveRoot_31 : decode cX6_giveRoot 31 = .ok (.goto 4, 3) := by decide +kernel
theorem dX6_giveRoot_34 : decode cX6_giveRoot 34 = .ok (.iconst 0, 1) := by decide +kernel
theorem dX6_giveRoot_35 : decode cX6_giveRoot 35 = .ok (.istore_n 3, 1) := by decide +kernel
theorem dX6_giveRoot_36 : decode cX6_giveRoot 36 = .ok (.aload_n 0, 1) := by decide +kernel
theorem dX6_giveRoot_37 : decode cX6_giveRoot 37 = .ok (.getfield 10, 3) := by decide +kernel
theorem dX6_giveRoot_40 : decode cX6_giveRoot 40 = .ok (.iload_n 3, 1) := by decide +kernel
theorem dX6_giveRoot_41 : decode cX6_giveRoot 41 = .ok (.ifCond .eq 7, 3) := by decide +kernel
theorem dX6_giveRoot_44 : decode cX6_giveRoot 44 = .ok (.iload_n 2, 1) := by decide +kernel
theorem dX6_giveRoot_45 : decode cX6_giveRoot 45 = .ok (.goto 4, 3) := by decide +kernel
theorem dX6_giveRoot_48 : decode cX6_giveRoot 48 = .ok (.iload_n 1, 1) := by decide +kernel
theorem dX6_giveRoot_49 : decode cX6_giveRoot 49 = .ok (.invokevirtual 73, 3) := by decide +kernel
theorem dX6_giveRoot_52 : decode cX6_giveRoot 52 = .ok (.return_, 1) := by decide +kernel
theorem dX6_tellOfTree_0 : decode cX6_tellOfTree 0 = .ok (.aload_n 0, 1) := by decide +kernel
theorem dX6_tellOfTree_1 : decode cX6_tellOfTree 1 = .ok (.getfield 32, 3) := by decide +kernel
theorem dX6_tellOfTree_4 : decode cX6_tellOfTree 4 = .ok (.aload_n 0, 1) := by decide +kernel
theorem dX6_tellOfTree_5 : decode cX6_tellOfTree 5 = .ok (.getfield 10, 3) := by decide +kernel
theorem dX6_tellOfTree_8 : decode cX6_tellOfTree 8 = .ok (.iload_n 1, 1) := by decide +kernel
theorem dX6_tellOfTree_9 : decode cX6_tellOfTree 9 = .ok (.invokevirtual 174, 3) := by decide +kernel
theorem dX6_tellOfTree_12 : decode cX6_tellOfTree 12 = .ok (.aload_n 0, 1) := by decide +kernel
theorem dX6_tellOfTree_13 : decode cX6_tellOfTree 13 = .ok (.getfield 32, 3) := by decide +kernel
theorem dX6_tellOfTree_16 : decode cX6_tellOfTree 16 = .ok (.aload_n 0, 1) := by decide +kernel
theorem dX6_tellOfTree_17 : decode cX6_tellOfTree 17 = .ok (.getfield 10, 3) := by decide +kernel
theorem dX6_tellOfTree_20 : decode cX6_tellOfTree 20 = .ok (.invokevirtual 178, 3) := by decide +kernel
theorem dX6_tellOfTree_23 : decode cX6_tellOfTree 23 = .ok (.istore_n 3, 1) := by decide +kernel
theorem dX6_tellOfTree_24 : decode cX6_tellOfTree 24 = .ok (.iload_n 2, 1) := by decide +kernel
theorem dX6_tellOfTree_25 : decode cX6_tellOfTree 25 = .ok (.tableswitch 85 3 9 #[43, 45, 54, 85, 85, 63, 74], 43) := by decide +kernel
theorem dX6_tellOfTree_68 : decode cX6_tellOfTree 68 = .ok (.iload_n 3, 1) := by decide +kernel
theorem dX6_tellOfTree_69 : decode cX6_tellOfTree 69 = .ok (.ireturn, 1) := by decide +kernel
theorem dX6_tellOfTree_70 : decode cX6_tellOfTree 70 = .ok (.aload_n 0, 1) := by decide +kernel
theorem dX6_tellOfTree_71 : decode cX6_tellOfTree 71 = .ok (.getfield 32, 3) := by decide +kernel
theorem dX6_tellOfTree_74 : decode cX6_tellOfTree 74 = .ok (.iload_n 3, 1) := by decide +kernel
theorem dX6_tellOfTree_75 : decode cX6_tellOfTree 75 = .ok (.invokevirtual 182, 3) := by decide +kernel
theorem dX6_tellOfTree_78 : decode cX6_tellOfTree 78 = .ok (.ireturn, 1) := by decide +kernel
theorem dX6_tellOfTree_79 : decode cX6_tellOfTree 79 = .ok (.aload_n 0, 1) := by decide +kernel
theorem dX6_tellOfTree_80 : decode cX6_tellOfTree 80 = .ok (.getfield 32, 3) := by decide +kernel
theorem dX6_tellOfTree_83 : decode cX6_tellOfTree 83 = .ok (.iload_n 3, 1) := by decide +kernel
theorem dX6_tellOfTree_84 : decode cX6_tellOfTree 84 = .ok (.invokevirtual 257, 3) := by decide +kernel
theorem dX6_tellOfTree_87 : decode cX6_tellOfTree 87 = .ok (.ireturn, 1) := by decide +kernel
theorem dX6_tellOfTree_88 : decode cX6_tellOfTree 88 = .ok (.aload_n 0, 1) := by decide +kernel
theorem dX6_tellOfTree_89 : decode cX6_tellOfTree 89 = .ok (.getfield 32, 3) := by decide +kernel
theorem dX6_tellOfTree_92 : decode cX6_tellOfTree 92 = .ok (.getfield 208, 3) := by decide +kernel
theorem dX6_tellOfTree_95 : decode cX6_tellOfTree 95 = .ok (.invokestatic 191, 3) := by decide +kernel
theorem dX6_tellOfTree_98 : decode cX6_tellOfTree 98 = .ok (.ireturn, 1) := by decide +kernel
theorem dX6_tellOfTree_99 : decode cX6_tellOfTree 99 = .ok (.iconst 1, 1) := by decide +kernel
theorem dX6_tellOfTree_100 : decode cX6_tellOfTree 100 = .ok (.aload_n 0, 1) := by decide +kernel
theorem dX6_tellOfTree_101 : decode cX6_tellOfTree 101 = .ok (.getfield 32, 3) := by decide +kernel
theorem dX6_tellOfTree_104 : decode cX6_tellOfTree 104 = .ok (.iload_n 3, 1) := by decide +kernel
theorem dX6_tellOfTree_105 : decode cX6_tellOfTree 105 = .ok (.invokevirtual 257, 3) := by decide +kernel
theorem dX6_tellOfTree_108 : decode cX6_tellOfTree 108 = .ok (.iadd, 1) := by decide +kernel
theorem dX6_tellOfTree_109 : decode cX6_tellOfTree 109 = .ok (.ireturn, 1) := by decide +kernel
theorem dX6_tellOfTree_110 : decode cX6_tellOfTree 110 = .ok (.bipush (-2), 2) := by decide +kernel
theorem dX6_tellOfTree_112 : decode cX6_tellOfTree 112 = .ok (.ireturn, 1) := by decide +kernel
theorem dX6_costFrom_0 : decode cX6_costFrom 0 = .ok (.aload_n 0, 1) := by decide +kernel
theorem dX6_costFrom_1 : decode cX6_costFrom 1 = .ok (.getfield 32, 3) := by decide +kernel
theorem dX6_costFrom_4 : decode cX6_costFrom 4 = .ok (.aload_n 0, 1) := by decide +kernel
theorem dX6_costFrom_5 : decode cX6_costFrom 5 = .ok (.getfield 10, 3) := by decide +kernel
theorem dX6_costFrom_8 : decode cX6_costFrom 8 = .ok (.iload_n 1, 1) := by decide +kernel
theorem dX6_costFrom_9 : decode cX6_costFrom 9 = .ok (.invokevirtual 174, 3) := by decide +kernel
theorem dX6_costFrom_12 : decode cX6_costFrom 12 = .ok (.iconst 0, 1) := by decide +kernel
theorem dX6_costFrom_13 : decode cX6_costFrom 13 = .ok (.istore_n 2, 1) := by decide +kernel
theorem dX6_costFrom_14 : decode cX6_costFrom 14 = .ok (.iconst 0, 1) := by decide +kernel
theorem dX6_costFrom_15 : decode cX6_costFrom 15 = .ok (.istore_n 3, 1) := by decide +kernel
theorem dX6_costFrom_16 : decode cX6_costFrom 16 = .ok (.iload_n 3, 1) := by decide +kernel
theorem dX6_costFrom_17 : decode cX6_costFrom 17 = .ok (.bipush 24, 2) := by decide +kernel
theorem dX6_costFrom_19 : decode cX6_costFrom 19 = .ok (.if_icmp .ge 45, 3) := by decide +kernel
theorem dX6_costFrom_22 : decode cX6_costFrom 22 = .ok (.aload_n 0, 1) := by decide +kernel
theorem dX6_costFrom_23 : decode cX6_costFrom 23 = .ok (.getfield 32, 3) := by decide +kernel
theorem dX6_costFrom_26 : decode cX6_costFrom 26 = .ok (.getfield 208, 3) := by decide +kernel
theorem dX6_costFrom_29 : decode cX6_costFrom 29 = .ok (.iload_n 3, 1) := by decide +kernel
theorem dX6_costFrom_30 : decode cX6_costFrom 30 = .ok (.invokestatic 199, 3) := by decide +kernel
theorem dX6_costFrom_33 : decode cX6_costFrom 33 = .ok (.ifCond .eq 25, 3) := by decide +kernel
theorem dX6_costFrom_36 : decode cX6_costFrom 36 = .ok (.iload_n 2, 1) := by decide +kernel
theorem dX6_costFrom_37 : decode cX6_costFrom 37 = .ok (.aload_n 0, 1) := by decide +kernel
theorem dX6_costFrom_38 : decode cX6_costFrom 38 = .ok (.getfield 10, 3) := by decide +kernel
theorem dX6_costFrom_41 : decode cX6_costFrom 41 = .ok (.iload_n 3, 1) := by decide +kernel
theorem dX6_costFrom_42 : decode cX6_costFrom 42 = .ok (.invokevirtual 168, 3) := by decide +kernel
theorem dX6_costFrom_45 : decode cX6_costFrom 45 = .ok (.iconst 1, 1) := by decide +kernel
theorem dX6_costFrom_46 : decode cX6_costFrom 46 = .ok (.aload_n 0, 1) := by decide +kernel
theorem dX6_costFrom_47 : decode cX6_costFrom 47 = .ok (.getfield 32, 3) := by decide +kernel
theorem dX6_costFrom_50 : decode cX6_costFrom 50 = .ok (.iload_n 3, 1) := by decide +kernel
theorem dX6_costFrom_51 : decode cX6_costFrom 51 = .ok (.invokevirtual 257, 3) := by decide +kernel
theorem dX6_costFrom_54 : decode cX6_costFrom 54 = .ok (.iadd, 1) := by decide +kernel
theorem dX6_costFrom_55 : decode cX6_costFrom 55 = .ok (.imul, 1) := by decide +kernel
theorem dX6_costFrom_56 : decode cX6_costFrom 56 = .ok (.iadd, 1) := by decide +kernel
theorem dX6_costFrom_57 : decode cX6_costFrom 57 = .ok (.istore_n 2, 1) := by decide +kernel
theorem dX6_costFrom_58 : decode cX6_costFrom 58 = .ok (.iinc 3 1, 3) := by decide +kernel
theorem dX6_costFrom_61 : decode cX6_costFrom 61 = .ok (.goto (-45), 3) := by decide +kernel
theorem dX6_costFrom_64 : decode cX6_costFrom 64 = .ok (.iload_n 2, 1) := by decide +kernel
theorem dX6_costFrom_65 : decode cX6_costFrom 65 = .ok (.ireturn, 1) := by decide +kernel
theorem dX6_longestWay_0 : decode cX6_longestWay 0 = .ok (.iconst 0, 1) := by decide +kernel
theorem dX6_longestWay_1 : decode cX6_longestWay 1 = .ok (.istore_n 1, 1) := by decide +kernel
theorem dX6_longestWay_2 : decode cX6_longestWay 2 = .ok (.iconst 0, 1) := by decide +kernel
theorem dX6_longestWay_3 : decode cX6_longestWay 3 = .ok (.istore_n 2, 1) := by decide +kernel
theorem dX6_longestWay_4 : decode cX6_longestWay 4 = .ok (.iload_n 2, 1) := by decide +kernel
theorem dX6_longestWay_5 : decode cX6_longestWay 5 = .ok (.bipush 24, 2) := by decide +kernel
theorem dX6_longestWay_7 : decode cX6_longestWay 7 = .ok (.if_icmp .ge 44, 3) := by decide +kernel
theorem dX6_longestWay_10 : decode cX6_longestWay 10 = .ok (.aload_n 0, 1) := by decide +kernel
theorem dX6_longestWay_11 : decode cX6_longestWay 11 = .ok (.getfield 10, 3) := by decide +kernel
theorem dX6_longestWay_14 : decode cX6_longestWay 14 = .ok (.iload_n 2, 1) := by decide +kernel
theorem dX6_longestWay_15 : decode cX6_longestWay 15 = .ok (.invokevirtual 64, 3) := by decide +kernel
theorem dX6_longestWay_18 : decode cX6_longestWay 18 = .ok (.ifCond .eq 27, 3) := by decide +kernel
theorem dX6_longestWay_21 : decode cX6_longestWay 21 = .ok (.aload_n 0, 1) := by decide +kernel
theorem dX6_longestWay_22 : decode cX6_longestWay 22 = .ok (.getfield 32, 3) := by decide +kernel
theorem dX6_longestWay_25 : decode cX6_longestWay 25 = .ok (.aload_n 0, 1) := by decide +kernel
theorem dX6_longestWay_26 : decode cX6_longestWay 26 = .ok (.getfield 10, 3) := by decide +kernel
theorem dX6_longestWay_29 : decode cX6_longestWay 29 = .ok (.iload_n 2, 1) := by decide +kernel
theorem dX6_longestWay_30 : decode cX6_longestWay 30 = .ok (.invokevirtual 174, 3) := by decide +kernel
theorem dX6_longestWay_33 : decode cX6_longestWay 33 = .ok (.iload_n 1, 1) := by decide +kernel
theorem dX6_longestWay_34 : decode cX6_longestWay 34 = .ok (.aload_n 0, 1) := by decide +kernel
theorem dX6_longestWay_35 : decode cX6_longestWay 35 = .ok (.getfield 32, 3) := by decide +kernel
theorem dX6_longestWay_38 : decode cX6_longestWay 38 = .ok (.invokevirtual 293, 3) := by decide +kernel
theorem dX6_longestWay_41 : decode cX6_longestWay 41 = .ok (.invokestatic 296, 3) := by decide +kernel
theorem dX6_longestWay_44 : decode cX6_longestWay 44 = .ok (.istore_n 1, 1) := by decide +kernel
theorem dX6_longestWay_45 : decode cX6_longestWay 45 = .ok (.iinc 2 1, 3) := by decide +kernel
theorem dX6_longestWay_48 : decode cX6_longestWay 48 = .ok (.goto (-44), 3) := by decide +kernel
theorem dX6_longestWay_51 : decode cX6_longestWay 51 = .ok (.iload_n 1, 1) := by decide +kernel
theorem dX6_longestWay_52 : decode cX6_longestWay 52 = .ok (.ireturn, 1) := by decide +kernel
theorem dX6_isCell_0 : decode cX6_isCell 0 = .ok (.iload_n 0, 1) := by decide +kernel
theorem dX6_isCell_1 : decode cX6_isCell 1 = .ok (.ifCond .lt 13, 3) := by decide +kernel
theorem dX6_isCell_4 : decode cX6_isCell 4 = .ok (.iload_n 0, 1) := by decide +kernel
theorem dX6_isCell_5 : decode cX6_isCell 5 = .ok (.bipush 8, 2) := by decide +kernel
theorem dX6_isCell_7 : decode cX6_isCell 7 = .ok (.if_icmp .ge 7, 3) := by decide +kernel
theorem dX6_isCell_10 : decode cX6_isCell 10 = .ok (.iconst 1, 1) := by decide +kernel
theorem dX6_isCell_11 : decode cX6_isCell 11 = .ok (.goto 4, 3) := by decide +kernel
theorem dX6_isCell_14 : decode cX6_isCell 14 = .ok (.iconst 0, 1) := by decide +kernel
theorem dX6_isCell_15 : decode cX6_isCell 15 = .ok (.ireturn, 1) := by decide +kernel
theorem dJ6_numberOfTrailingZeros_0f7a4_0 : decode cJ6_numberOfTrailingZeros_0f7a4 0 = .ok (.iload_n 0, 1) := by decide +kernel
theorem dJ6_numberOfTrailingZeros_0f7a4_1 : decode cJ6_numberOfTrailingZeros_0f7a4 1 = .ok (.iconst (-1), 1) := by decide +kernel
theorem dJ6_numberOfTrailingZeros_0f7a4_2 : decode cJ6_numberOfTrailingZeros_0f7a4 2 = .ok (.ixor, 1) := by decide +kernel
theorem dJ6_numberOfTrailingZeros_0f7a4_3 : decode cJ6_numberOfTrailingZeros_0f7a4 3 = .ok (.iload_n 0, 1) := by decide +kernel
theorem dJ6_numberOfTrailingZeros_0f7a4_4 : decode cJ6_numberOfTrailingZeros_0f7a4 4 = .ok (.iconst 1, 1) := by decide +kernel
theorem dJ6_numberOfTrailingZeros_0f7a4_5 : decode cJ6_numberOfTrailingZeros_0f7a4 5 = .ok (.isub, 1) := by decide +kernel
theorem dJ6_numberOfTrailingZeros_0f7a4_6 : decode cJ6_numberOfTrailingZeros_0f7a4 6 = .ok (.iand, 1) := by decide +kernel
theorem dJ6_numberOfTrailingZeros_0f7a4_7 : decode cJ6_numberOfTrailingZeros_0f7a4 7 = .ok (.istore_n 0, 1) := by decide +kernel
theorem dJ6_numberOfTrailingZeros_0f7a4_8 : decode cJ6_numberOfTrailingZeros_0f7a4 8 = .ok (.iload_n 0, 1) := by decide +kernel
theorem dJ6_numberOfTrailingZeros_0f7a4_9 : decode cJ6_numberOfTrailingZeros_0f7a4 9 = .ok (.ifCond .gt 8, 3) := by decide +kernel
theorem dJ6_numberOfTrailingZeros_0f7a4_12 : decode cJ6_numberOfTrailingZeros_0f7a4 12 = .ok (.iload_n 0, 1) := by decide +kernel
theorem dJ6_numberOfTrailingZeros_0f7a4_13 : decode cJ6_numberOfTrailingZeros_0f7a4 13 = .ok (.bipush 32, 2) := by decide +kernel
theorem dJ6_numberOfTrailingZeros_0f7a4_15 : decode cJ6_numberOfTrailingZeros_0f7a4 15 = .ok (.iand, 1) := by decide +kernel
theorem dJ6_numberOfTrailingZeros_0f7a4_16 : decode cJ6_numberOfTrailingZeros_0f7a4 16 = .ok (.ireturn, 1) := by decide +kernel
theorem dJ6_numberOfTrailingZeros_0f7a4_17 : decode cJ6_numberOfTrailingZeros_0f7a4 17 = .ok (.iconst 1, 1) := by decide +kernel
theorem dJ6_numberOfTrailingZeros_0f7a4_18 : decode cJ6_numberOfTrailingZeros_0f7a4 18 = .ok (.istore_n 1, 1) := by decide +kernel
theorem dJ6_numberOfTrailingZeros_0f7a4_19 : decode cJ6_numberOfTrailingZeros_0f7a4 19 = .ok (.iload_n 0, 1) := by decide +kernel
theorem dJ6_numberOfTrailingZeros_0f7a4_20 : decode cJ6_numberOfTrailingZeros_0f7a4 20 = .ok (.ldc_w 264, 3) := by decide +kernel
theorem dJ6_numberOfTrailingZeros_0f7a4_23 : decode cJ6_numberOfTrailingZeros_0f7a4 23 = .ok (.if_icmp .le 11, 3) := by decide +kernel
theorem dJ6_numberOfTrailingZeros_0f7a4_26 : decode cJ6_numberOfTrailingZeros_0f7a4 26 = .ok (.iinc 1 16, 3) := by decide +kernel
theorem dJ6_numberOfTrailingZeros_0f7a4_29 : decode cJ6_numberOfTrailingZeros_0f7a4 29 = .ok (.iload_n 0, 1) := by decide +kernel
theorem dJ6_numberOfTrailingZeros_0f7a4_30 : decode cJ6_numberOfTrailingZeros_0f7a4 30 = .ok (.bipush 16, 2) := by decide +kernel
theorem dJ6_numberOfTrailingZeros_0f7a4_32 : decode cJ6_numberOfTrailingZeros_0f7a4 32 = .ok (.iushr, 1) := by decide +kernel
theorem dJ6_numberOfTrailingZeros_0f7a4_33 : decode cJ6_numberOfTrailingZeros_0f7a4 33 = .ok (.istore_n 0, 1) := by decide +kernel
theorem dJ6_numberOfTrailingZeros_0f7a4_34 : decode cJ6_numberOfTrailingZeros_0f7a4 34 = .ok (.iload_n 0, 1) := by decide +kernel
theorem dJ6_numberOfTrailingZeros_0f7a4_35 : decode cJ6_numberOfTrailingZeros_0f7a4 35 = .ok (.sipush 256, 3) := by decide +kernel
theorem dJ6_numberOfTrailingZeros_0f7a4_38 : decode cJ6_numberOfTrailingZeros_0f7a4 38 = .ok (.if_icmp .le 11, 3) := by decide +kernel
theorem dJ6_numberOfTrailingZeros_0f7a4_41 : decode cJ6_numberOfTrailingZeros_0f7a4 41 = .ok (.iinc 1 8, 3) := by decide +kernel
theorem dJ6_numberOfTrailingZeros_0f7a4_44 : decode cJ6_numberOfTrailingZeros_0f7a4 44 = .ok (.iload_n 0, 1) := by decide +kernel
theorem dJ6_numberOfTrailingZeros_0f7a4_45 : decode cJ6_numberOfTrailingZeros_0f7a4 45 = .ok (.bipush 8, 2) := by decide +kernel
theorem dJ6_numberOfTrailingZeros_0f7a4_47 : decode cJ6_numberOfTrailingZeros_0f7a4 47 = .ok (.iushr, 1) := by decide +kernel
theorem dJ6_numberOfTrailingZeros_0f7a4_48 : decode cJ6_numberOfTrailingZeros_0f7a4 48 = .ok (.istore_n 0, 1) := by decide +kernel
theorem dJ6_numberOfTrailingZeros_0f7a4_49 : decode cJ6_numberOfTrailingZeros_0f7a4 49 = .ok (.iload_n 0, 1) := by decide +kernel
theorem dJ6_numberOfTrailingZeros_0f7a4_50 : decode cJ6_numberOfTrailingZeros_0f7a4 50 = .ok (.bipush 16, 2) := by decide +kernel
theorem dJ6_numberOfTrailingZeros_0f7a4_52 : decode cJ6_numberOfTrailingZeros_0f7a4 52 = .ok (.if_icmp .le 10, 3) := by decide +kernel
theorem dJ6_numberOfTrailingZeros_0f7a4_55 : decode cJ6_numberOfTrailingZeros_0f7a4 55 = .ok (.iinc 1 4, 3) := by decide +kernel
theorem dJ6_numberOfTrailingZeros_0f7a4_58 : decode cJ6_numberOfTrailingZeros_0f7a4 58 = .ok (.iload_n 0, 1) := by decide +kernel
theorem dJ6_numberOfTrailingZeros_0f7a4_59 : decode cJ6_numberOfTrailingZeros_0f7a4 59 = .ok (.iconst 4, 1) := by decide +kernel
theorem dJ6_numberOfTrailingZeros_0f7a4_60 : decode cJ6_numberOfTrailingZeros_0f7a4 60 = .ok (.iushr, 1) := by decide +kernel
theorem dJ6_numberOfTrailingZeros_0f7a4_61 : decode cJ6_numberOfTrailingZeros_0f7a4 61 = .ok (.istore_n 0, 1) := by decide +kernel
theorem dJ6_numberOfTrailingZeros_0f7a4_62 : decode cJ6_numberOfTrailingZeros_0f7a4 62 = .ok (.iload_n 0, 1) := by decide +kernel
theorem dJ6_numberOfTrailingZeros_0f7a4_63 : decode cJ6_numberOfTrailingZeros_0f7a4 63 = .ok (.iconst 4, 1) := by decide +kernel
theorem dJ6_numberOfTrailingZeros_0f7a4_64 : decode cJ6_numberOfTrailingZeros_0f7a4 64 = .ok (.if_icmp .le 10, 3) := by decide +kernel
theorem dJ6_numberOfTrailingZeros_0f7a4_67 : decode cJ6_numberOfTrailingZeros_0f7a4 67 = .ok (.iinc 1 2, 3) := by decide +kernel
theorem dJ6_numberOfTrailingZeros_0f7a4_70 : decode cJ6_numberOfTrailingZeros_0f7a4 70 = .ok (.iload_n 0, 1) := by decide +kernel
theorem dJ6_numberOfTrailingZeros_0f7a4_71 : decode cJ6_numberOfTrailingZeros_0f7a4 71 = .ok (.iconst 2, 1) := by decide +kernel
theorem dJ6_numberOfTrailingZeros_0f7a4_72 : decode cJ6_numberOfTrailingZeros_0f7a4 72 = .ok (.iushr, 1) := by decide +kernel
theorem dJ6_numberOfTrailingZeros_0f7a4_73 : decode cJ6_numberOfTrailingZeros_0f7a4 73 = .ok (.istore_n 0, 1) := by decide +kernel
theorem dJ6_numberOfTrailingZeros_0f7a4_74 : decode cJ6_numberOfTrailingZeros_0f7a4 74 = .ok (.iload_n 1, 1) := by decide +kernel
theorem dJ6_numberOfTrailingZeros_0f7a4_75 : decode cJ6_numberOfTrailingZeros_0f7a4 75 = .ok (.iload_n 0, 1) := by decide +kernel
theorem dJ6_numberOfTrailingZeros_0f7a4_76 : decode cJ6_numberOfTrailingZeros_0f7a4 76 = .ok (.iconst 1, 1) := by decide +kernel
theorem dJ6_numberOfTrailingZeros_0f7a4_77 : decode cJ6_numberOfTrailingZeros_0f7a4 77 = .ok (.iushr, 1) := by decide +kernel
theorem dJ6_numberOfTrailingZeros_0f7a4_78 : decode cJ6_numberOfTrailingZeros_0f7a4 78 = .ok (.iadd, 1) := by decide +kernel
theorem dJ6_numberOfTrailingZeros_0f7a4_79 : decode cJ6_numberOfTrailingZeros_0f7a4 79 = .ok (.ireturn, 1) := by decide +kernel
theorem dJ6_bitCount_0f7a4_0 : decode cJ6_bitCount_0f7a4 0 = .ok (.iload_n 0, 1) := by decide +kernel
theorem dJ6_bitCount_0f7a4_1 : decode cJ6_bitCount_0f7a4 1 = .ok (.iload_n 0, 1) := by decide +kernel
theorem dJ6_bitCount_0f7a4_2 : decode cJ6_bitCount_0f7a4 2 = .ok (.iconst 1, 1) := by decide +kernel
theorem dJ6_bitCount_0f7a4_3 : decode cJ6_bitCount_0f7a4 3 = .ok (.iushr, 1) := by decide +kernel
theorem dJ6_bitCount_0f7a4_4 : decode cJ6_bitCount_0f7a4 4 = .ok (.ldc_w 265, 3) := by decide +kernel
theorem dJ6_bitCount_0f7a4_7 : decode cJ6_bitCount_0f7a4 7 = .ok (.iand, 1) := by decide +kernel
theorem dJ6_bitCount_0f7a4_8 : decode cJ6_bitCount_0f7a4 8 = .ok (.isub, 1) := by decide +kernel
theorem dJ6_bitCount_0f7a4_9 : decode cJ6_bitCount_0f7a4 9 = .ok (.istore_n 0, 1) := by decide +kernel
theorem dJ6_bitCount_0f7a4_10 : decode cJ6_bitCount_0f7a4 10 = .ok (.iload_n 0, 1) := by decide +kernel
theorem dJ6_bitCount_0f7a4_11 : decode cJ6_bitCount_0f7a4 11 = .ok (.ldc_w 266, 3) := by decide +kernel
theorem dJ6_bitCount_0f7a4_14 : decode cJ6_bitCount_0f7a4 14 = .ok (.iand, 1) := by decide +kernel
theorem dJ6_bitCount_0f7a4_15 : decode cJ6_bitCount_0f7a4 15 = .ok (.iload_n 0, 1) := by decide +kernel
theorem dJ6_bitCount_0f7a4_16 : decode cJ6_bitCount_0f7a4 16 = .ok (.iconst 2, 1) := by decide +kernel
theorem dJ6_bitCount_0f7a4_17 : decode cJ6_bitCount_0f7a4 17 = .ok (.iushr, 1) := by decide +kernel
theorem dJ6_bitCount_0f7a4_18 : decode cJ6_bitCount_0f7a4 18 = .ok (.ldc_w 266, 3) := by decide +kernel
theorem dJ6_bitCount_0f7a4_21 : decode cJ6_bitCount_0f7a4 21 = .ok (.iand, 1) := by decide +kernel
theorem dJ6_bitCount_0f7a4_22 : decode cJ6_bitCount_0f7a4 22 = .ok (.iadd, 1) := by decide +kernel
theorem dJ6_bitCount_0f7a4_23 : decode cJ6_bitCount_0f7a4 23 = .ok (.istore_n 0, 1) := by decide +kernel
theorem dJ6_bitCount_0f7a4_24 : decode cJ6_bitCount_0f7a4 24 = .ok (.iload_n 0, 1) := by decide +kernel
theorem dJ6_bitCount_0f7a4_25 : decode cJ6_bitCount_0f7a4 25 = .ok (.iload_n 0, 1) := by decide +kernel
theorem dJ6_bitCount_0f7a4_26 : decode cJ6_bitCount_0f7a4 26 = .ok (.iconst 4, 1) := by decide +kernel
theorem dJ6_bitCount_0f7a4_27 : decode cJ6_bitCount_0f7a4 27 = .ok (.iushr, 1) := by decide +kernel
theorem dJ6_bitCount_0f7a4_28 : decode cJ6_bitCount_0f7a4 28 = .ok (.iadd, 1) := by decide +kernel
theorem dJ6_bitCount_0f7a4_29 : decode cJ6_bitCount_0f7a4 29 = .ok (.ldc_w 267, 3) := by decide +kernel
theorem dJ6_bitCount_0f7a4_32 : decode cJ6_bitCount_0f7a4 32 = .ok (.iand, 1) := by decide +kernel
theorem dJ6_bitCount_0f7a4_33 : decode cJ6_bitCount_0f7a4 33 = .ok (.istore_n 0, 1) := by decide +kernel
theorem dJ6_bitCount_0f7a4_34 : decode cJ6_bitCount_0f7a4 34 = .ok (.iload_n 0, 1) := by decide +kernel
theorem dJ6_bitCount_0f7a4_35 : decode cJ6_bitCount_0f7a4 35 = .ok (.iload_n 0, 1) := by decide +kernel
theorem dJ6_bitCount_0f7a4_36 : decode cJ6_bitCount_0f7a4 36 = .ok (.bipush 8, 2) := by decide +kernel
theorem dJ6_bitCount_0f7a4_38 : decode cJ6_bitCount_0f7a4 38 = .ok (.iushr, 1) := by decide +kernel
theorem dJ6_bitCount_0f7a4_39 : decode cJ6_bitCount_0f7a4 39 = .ok (.iadd, 1) := by decide +kernel
theorem dJ6_bitCount_0f7a4_40 : decode cJ6_bitCount_0f7a4 40 = .ok (.istore_n 0, 1) := by decide +kernel
theorem dJ6_bitCount_0f7a4_41 : decode cJ6_bitCount_0f7a4 41 = .ok (.iload_n 0, 1) := by decide +kernel
theorem dJ6_bitCount_0f7a4_42 : decode cJ6_bitCount_0f7a4 42 = .ok (.iload_n 0, 1) := by decide +kernel
theorem dJ6_bitCount_0f7a4_43 : decode cJ6_bitCount_0f7a4 43 = .ok (.bipush 16, 2) := by decide +kernel
theorem dJ6_bitCount_0f7a4_45 : decode cJ6_bitCount_0f7a4 45 = .ok (.iushr, 1) := by decide +kernel
theorem dJ6_bitCount_0f7a4_46 : decode cJ6_bitCount_0f7a4 46 = .ok (.iadd, 1) := by decide +kernel
theorem dJ6_bitCount_0f7a4_47 : decode cJ6_bitCount_0f7a4 47 = .ok (.istore_n 0, 1) := by decide +kernel
theorem dJ6_bitCount_0f7a4_48 : decode cJ6_bitCount_0f7a4 48 = .ok (.iload_n 0, 1) := by decide +kernel
theorem dJ6_bitCount_0f7a4_49 : decode cJ6_bitCount_0f7a4 49 = .ok (.bipush 63, 2) := by decide +kernel
theorem dJ6_bitCount_0f7a4_51 : decode cJ6_bitCount_0f7a4 51 = .ok (.iand, 1) := by decide +kernel
theorem dJ6_bitCount_0f7a4_52 : decode cJ6_bitCount_0f7a4 52 = .ok (.ireturn, 1) := by decide +kernel
theorem dJ9_max_7cf53_0 : decode cJ9_max_7cf53 0 = .ok (.iload_n 0, 1) := by decide +kernel
theorem dJ9_max_7cf53_1 : decode cJ9_max_7cf53 1 = .ok (.iload_n 1, 1) := by decide +kernel
theorem dJ9_max_7cf53_2 : decode cJ9_max_7cf53 2 = .ok (.if_icmp .lt 7, 3) := by decide +kernel
theorem dJ9_max_7cf53_5 : decode cJ9_max_7cf53 5 = .ok (.iload_n 0, 1) := by decide +kernel
theorem dJ9_max_7cf53_6 : decode cJ9_max_7cf53 6 = .ok (.goto 4, 3) := by decide +kernel
theorem dJ9_max_7cf53_9 : decode cJ9_max_7cf53 9 = .ok (.iload_n 1, 1) := by decide +kernel
theorem dJ9_max_7cf53_10 : decode cJ9_max_7cf53 10 = .ok (.ireturn, 1) := by decide +kernel
theorem dJ9_min_7cf53_0 : decode cJ9_min_7cf53 0 = .ok (.iload_n 0, 1) := by decide +kernel
theorem dJ9_min_7cf53_1 : decode cJ9_min_7cf53 1 = .ok (.iload_n 1, 1) := by decide +kernel
theorem dJ9_min_7cf53_2 : decode cJ9_min_7cf53 2 = .ok (.if_icmp .gt 7, 3) := by decide +kernel
theorem dJ9_min_7cf53_5 : decode cJ9_min_7cf53 5 = .ok (.iload_n 0, 1) := by decide +kernel
theorem dJ9_min_7cf53_6 : decode cJ9_min_7cf53 6 = .ok (.goto 4, 3) := by decide +kernel
theorem dJ9_min_7cf53_9 : decode cJ9_min_7cf53 9 = .ok (.iload_n 1, 1) := by decide +kernel
theorem dJ9_min_7cf53_10 : decode cJ9_min_7cf53 10 = .ok (.ireturn, 1) := by decide +kernel
theorem dL_cell_0 : decode cL_cell 0 = .ok (.iload_n 1, 1) := by decide +kernel
theorem dL_cell_1 : decode cL_cell 1 = .ok (.aload_n 0, 1) := by decide +kernel
theorem dL_cell_2 : decode cL_cell 2 = .ok (.arraylength, 1) := by decide +kernel
theorem dL_cell_3 : decode cL_cell 3 = .ok (.if_icmp .ge 9, 3) := by decide +kernel
theorem dL_cell_6 : decode cL_cell 6 = .ok (.aload_n 0, 1) := by decide +kernel
theorem dL_cell_7 : decode cL_cell 7 = .ok (.iload_n 1, 1) := by decide +kernel
theorem dL_cell_8 : decode cL_cell 8 = .ok (.iaload, 1) := by decide +kernel
theorem dL_cell_9 : decode cL_cell 9 = .ok (.goto 15, 3) := by decide +kernel
theorem dL_cell_12 : decode cL_cell 12 = .ok (.sipush 7919, 3) := by decide +kernel
theorem dL_cell_15 : decode cL_cell 15 = .ok (.iload_n 1, 1) := by decide +kernel
theorem dL_cell_16 : decode cL_cell 16 = .ok (.iconst 3, 1) := by decide +kernel
theorem dL_cell_17 : decode cL_cell 17 = .ok (.iadd, 1) := by decide +kernel
theorem dL_cell_18 : decode cL_cell 18 = .ok (.imul, 1) := by decide +kernel
theorem dL_cell_19 : decode cL_cell 19 = .ok (.iload_n 1, 1) := by decide +kernel
theorem dL_cell_20 : decode cL_cell 20 = .ok (.bipush 11, 2) := by decide +kernel
theorem dL_cell_22 : decode cL_cell 22 = .ok (.iadd, 1) := by decide +kernel
theorem dL_cell_23 : decode cL_cell 23 = .ok (.imul, 1) := by decide +kernel
theorem dL_cell_24 : decode cL_cell 24 = .ok (.ireturn, 1) := by decide +kernel
theorem dL_low_0 : decode cL_low 0 = .ok (.iload_n 0, 1) := by decide +kernel
theorem dL_low_1 : decode cL_low 1 = .ok (.ldc 7, 2) := by decide +kernel
theorem dL_low_3 : decode cL_low 3 = .ok (.iand, 1) := by decide +kernel
theorem dL_low_4 : decode cL_low 4 = .ok (.iload_n 1, 1) := by decide +kernel
theorem dL_low_5 : decode cL_low 5 = .ok (.irem, 1) := by decide +kernel
theorem dL_low_6 : decode cL_low 6 = .ok (.ireturn, 1) := by decide +kernel
theorem dL_pick_0 : decode cL_pick 0 = .ok (.iload_n 1, 1) := by decide +kernel
theorem dL_pick_1 : decode cL_pick 1 = .ok (.bipush 24, 2) := by decide +kernel
theorem dL_pick_3 : decode cL_pick 3 = .ok (.invokestatic 8, 3) := by decide +kernel
theorem dL_pick_6 : decode cL_pick 6 = .ok (.istore_n 2, 1) := by decide +kernel
theorem dL_pick_7 : decode cL_pick 7 = .ok (.iconst 0, 1) := by decide +kernel
theorem dL_pick_8 : decode cL_pick 8 = .ok (.istore_n 3, 1) := by decide +kernel
theorem dL_pick_9 : decode cL_pick 9 = .ok (.iload_n 3, 1) := by decide +kernel
theorem dL_pick_10 : decode cL_pick 10 = .ok (.bipush 24, 2) := by decide +kernel
theorem dL_pick_12 : decode cL_pick 12 = .ok (.if_icmp .ge 25, 3) := by decide +kernel
theorem dL_pick_15 : decode cL_pick 15 = .ok (.aload_n 0, 1) := by decide +kernel
theorem dL_pick_16 : decode cL_pick 16 = .ok (.iload_n 2, 1) := by decide +kernel
theorem dL_pick_17 : decode cL_pick 17 = .ok (.iconst 3, 1) := by decide +kernel
theorem dL_pick_18 : decode cL_pick 18 = .ok (.invokevirtual 14, 3) := by decide +kernel
theorem dL_pick_21 : decode cL_pick 21 = .ok (.ifCond .ge 16, 3) := by decide +kernel
theorem dL_pick_24 : decode cL_pick 24 = .ok (.iload_n 2, 1) := by decide +kernel
theorem dL_pick_25 : decode cL_pick 25 = .ok (.iconst 1, 1) := by decide +kernel
theorem dL_pick_26 : decode cL_pick 26 = .ok (.iadd, 1) := by decide +kernel
theorem dL_pick_27 : decode cL_pick 27 = .ok (.bipush 24, 2) := by decide +kernel
theorem dL_pick_29 : decode cL_pick 29 = .ok (.irem, 1) := by decide +kernel
theorem dL_pick_30 : decode cL_pick 30 = .ok (.istore_n 2, 1) := by decide +kernel
theorem dL_pick_31 : decode cL_pick 31 = .ok (.iinc 3 1, 3) := by decide +kernel
theorem dL_pick_34 : decode cL_pick 34 = .ok (.goto (-25), 3) := by decide +kernel
theorem dL_pick_37 : decode cL_pick 37 = .ok (.iload_n 2, 1) := by decide +kernel
theorem dL_pick_38 : decode cL_pick 38 = .ok (.ireturn, 1) := by decide +kernel
theorem dL_does_0 : decode cL_does 0 = .ok (.aload_n 0, 1) := by decide +kernel
theorem dL_does_1 : decode cL_does 1 = .ok (.iload_n 1, 1) := by decide +kernel
theorem dL_does_2 : decode cL_does 2 = .ok (.iconst 4, 1) := by decide +kernel
theorem dL_does_3 : decode cL_does 3 = .ok (.ishr, 1) := by decide +kernel
theorem dL_does_4 : decode cL_does 4 = .ok (.invokestatic 19, 3) := by decide +kernel
theorem dL_does_7 : decode cL_does 7 = .ok (.istore_n 2, 1) := by decide +kernel
theorem dL_does_8 : decode cL_does 8 = .ok (.aload_n 0, 1) := by decide +kernel
theorem dL_does_9 : decode cL_does 9 = .ok (.iload_n 1, 1) := by decide +kernel
theorem dL_does_10 : decode cL_does 10 = .ok (.bipush 7, 2) := by decide +kernel
theorem dL_does_12 : decode cL_does 12 = .ok (.ishr, 1) := by decide +kernel
theorem dL_does_13 : decode cL_does 13 = .ok (.invokestatic 19, 3) := by decide +kernel
theorem dL_does_16 : decode cL_does 16 = .ok (.istore_n 3, 1) := by decide +kernel
theorem dL_does_17 : decode cL_does 17 = .ok (.iconst 0, 1) := by decide +kernel
theorem dL_does_18 : decode cL_does 18 = .ok (.istore 4, 2) := by decide +kernel
theorem dL_does_20 : decode cL_does 20 = .ok (.iload_n 1, 1) := by decide +kernel
theorem dL_does_21 : decode cL_does 21 = .ok (.bipush 15, 2) := by decide +kernel
theorem dL_does_23 : decode cL_does 23 = .ok (.iand, 1) := by decide +kernel
theorem dL_does_24 : decode cL_does 24 = .ok (.tableswitch 285 0 11 #[64, 64, 64, 101, 101, 134, 155, 155, 176, 204, 204, 232], 64) := by decide +kernel
theorem dL_does_88 : decode cL_does 88 = .ok (.aload_n 0, 1) := by decide +kernel
theorem dL_does_89 : decode cL_does 89 = .ok (.iconst 0, 1) := by decide +kernel
theorem dL_does_90 : decode cL_does 90 = .ok (.invokevirtual 23, 3) := by decide +kernel
theorem dL_does_93 : decode cL_does 93 = .ok (.bipush 14, 2) := by decide +kernel
theorem dL_does_95 : decode cL_does 95 = .ok (.if_icmp .ne 7, 3) := by decide +kernel
theorem dL_does_98 : decode cL_does 98 = .ok (.iconst 0, 1) := by decide +kernel
theorem dL_does_99 : decode cL_does 99 = .ok (.goto 25, 3) := by decide +kernel
theorem dL_does_102 : decode cL_does 102 = .ok (.aload_n 0, 1) := by decide +kernel
theorem dL_does_103 : decode cL_does 103 = .ok (.iload_n 2, 1) := by decide +kernel
theorem dL_does_104 : decode cL_does 104 = .ok (.iload_n 1, 1) := by decide +kernel
theorem dL_does_105 : decode cL_does 105 = .ok (.bipush 8, 2) := by decide +kernel
theorem dL_does_107 : decode cL_does 107 = .ok (.ishr, 1) := by decide +kernel
theorem dL_does_108 : decode cL_does 108 = .ok (.bipush 8, 2) := by decide +kernel
theorem dL_does_110 : decode cL_does 110 = .ok (.invokestatic 8, 3) := by decide +kernel
theorem dL_does_113 : decode cL_does 113 = .ok (.iload_n 1, 1) := by decide +kernel
theorem dL_does_114 : decode cL_does 114 = .ok (.bipush 11, 2) := by decide +kernel
theorem dL_does_116 : decode cL_does 116 = .ok (.ishr, 1) := by decide +kernel
theorem dL_does_117 : decode cL_does 117 = .ok (.iconst 4, 1) := by decide +kernel
theorem dL_does_118 : decode cL_does 118 = .ok (.invokestatic 8, 3) := by decide +kernel
theorem dL_does_121 : decode cL_does 121 = .ok (.invokevirtual 27, 3) := by decide +kernel
theorem dL_does_124 : decode cL_does 124 = .ok (.ireturn, 1) := by decide +kernel
theorem dL_does_125 : decode cL_does 125 = .ok (.aload_n 0, 1) := by decide +kernel
theorem dL_does_126 : decode cL_does 126 = .ok (.iconst 0, 1) := by decide +kernel
theorem dL_does_127 : decode cL_does 127 = .ok (.invokevirtual 23, 3) := by decide +kernel
theorem dL_does_130 : decode cL_does 130 = .ok (.bipush 14, 2) := by decide +kernel
theorem dL_does_132 : decode cL_does 132 = .ok (.if_icmp .ne 7, 3) := by decide +kernel
theorem dL_does_135 : decode cL_does 135 = .ok (.iconst 0, 1) := by decide +kernel
theorem dL_does_136 : decode cL_does 136 = .ok (.goto 21, 3) := by decide +kernel
theorem dL_does_139 : decode cL_does 139 = .ok (.aload_n 0, 1) := by decide +kernel
theorem dL_does_140 : decode cL_does 140 = .ok (.iload_n 2, 1) := by decide +kernel
theorem dL_does_141 : decode cL_does 141 = .ok (.iload_n 3, 1) := by decide +kernel
theorem dL_does_142 : decode cL_does 142 = .ok (.iconst 1, 1) := by decide +kernel
theorem dL_does_143 : decode cL_does 143 = .ok (.iload_n 1, 1) := by decide +kernel
theorem dL_does_144 : decode cL_does 144 = .ok (.bipush 6, 2) := by decide +kernel
theorem dL_does_146 : decode cL_does 146 = .ok (.ishr, 1) := by decide +kernel
theorem dL_does_147 : decode cL_does 147 = .ok (.sipush 255, 3) := by decide +kernel
theorem dL_does_150 : decode cL_does 150 = .ok (.invokestatic 8, 3) := by decide +kernel
theorem dL_does_153 : decode cL_does 153 = .ok (.iadd, 1) := by decide +kernel
theorem dL_does_154 : decode cL_does 154 = .ok (.invokevirtual 31, 3) := by decide +kernel
theorem dL_does_157 : decode cL_does 157 = .ok (.ireturn, 1) := by decide +kernel
theorem dL_does_158 : decode cL_does 158 = .ok (.aload_n 0, 1) := by decide +kernel
theorem dL_does_159 : decode cL_does 159 = .ok (.iload_n 2, 1) := by decide +kernel
theorem dL_does_160 : decode cL_does 160 = .ok (.invokevirtual 34, 3) := by decide +kernel
theorem dL_does_163 : decode cL_does 163 = .ok (.istore 4, 2) := by decide +kernel
theorem dL_does_165 : decode cL_does 165 = .ok (.iload 4, 2) := by decide +kernel
theorem dL_does_167 : decode cL_does 167 = .ok (.bipush (-4), 2) := by decide +kernel
theorem dL_does_169 : decode cL_does 169 = .ok (.if_icmp .ne 7, 3) := by decide +kernel
theorem dL_does_172 : decode cL_does 172 = .ok (.iconst 0, 1) := by decide +kernel
theorem dL_does_173 : decode cL_does 173 = .ok (.goto 5, 3) := by decide +kernel
theorem dL_does_176 : decode cL_does 176 = .ok (.iload 4, 2) := by decide +kernel
theorem dL_does_178 : decode cL_does 178 = .ok (.ireturn, 1) := by decide +kernel
theorem dL_does_179 : decode cL_does 179 = .ok (.aload_n 0, 1) := by decide +kernel
theorem dL_does_180 : decode cL_does 180 = .ok (.iload_n 2, 1) := by decide +kernel
theorem dL_does_181 : decode cL_does 181 = .ok (.invokevirtual 37, 3) := by decide +kernel
theorem dL_does_184 : decode cL_does 184 = .ok (.istore 4, 2) := by decide +kernel
theorem dL_does_186 : decode cL_does 186 = .ok (.iload 4, 2) := by decide +kernel
theorem dL_does_188 : decode cL_does 188 = .ok (.bipush (-5), 2) := by decide +kernel
theorem dL_does_190 : decode cL_does 190 = .ok (.if_icmp .ne 7, 3) := by decide +kernel
theorem dL_does_193 : decode cL_does 193 = .ok (.iconst 0, 1) := by decide +kernel
theorem dL_does_194 : decode cL_does 194 = .ok (.goto 5, 3) := by decide +kernel
theorem dL_does_197 : decode cL_does 197 = .ok (.iload 4, 2) := by decide +kernel
theorem dL_does_199 : decode cL_does 199 = .ok (.ireturn, 1) := by decide +kernel
theorem dL_does_200 : decode cL_does 200 = .ok (.aload_n 0, 1) := by decide +kernel
theorem dL_does_201 : decode cL_does 201 = .ok (.iload_n 2, 1) := by decide +kernel
theorem dL_does_202 : decode cL_does 202 = .ok (.invokevirtual 40, 3) := by decide +kernel
theorem dL_does_205 : decode cL_does 205 = .ok (.istore 4, 2) := by decide +kernel
theorem dL_does_207 : decode cL_does 207 = .ok (.iload 4, 2) := by decide +kernel
theorem dL_does_209 : decode cL_does 209 = .ok (.bipush (-5), 2) := by decide +kernel
theorem dL_does_211 : decode cL_does 211 = .ok (.if_icmp .eq 10, 3) := by decide +kernel
theorem dL_does_214 : decode cL_does 214 = .ok (.iload 4, 2) := by decide +kernel
theorem dL_does_216 : decode cL_does 216 = .ok (.bipush (-4), 2) := by decide +kernel
theorem dL_does_218 : decode cL_does 218 = .ok (.if_icmp .ne 7, 3) := by decide +kernel
theorem dL_does_221 : decode cL_does 221 = .ok (.iconst 0, 1) := by decide +kernel
theorem dL_does_222 : decode cL_does 222 = .ok (.goto 5, 3) := by decide +kernel
theorem dL_does_225 : decode cL_does 225 = .ok (.iload 4, 2) := by decide +kernel
theorem dL_does_227 : decode cL_does 227 = .ok (.ireturn, 1) := by decide +kernel
theorem dL_does_228 : decode cL_does 228 = .ok (.aload_n 0, 1) := by decide +kernel
theorem dL_does_229 : decode cL_does 229 = .ok (.iload_n 2, 1) := by decide +kernel
theorem dL_does_230 : decode cL_does 230 = .ok (.invokevirtual 43, 3) := by decide +kernel
theorem dL_does_233 : decode cL_does 233 = .ok (.istore 4, 2) := by decide +kernel
theorem dL_does_235 : decode cL_does 235 = .ok (.iload 4, 2) := by decide +kernel
theorem dL_does_237 : decode cL_does 237 = .ok (.bipush (-5), 2) := by decide +kernel
theorem dL_does_239 : decode cL_does 239 = .ok (.if_icmp .eq 10, 3) := by decide +kernel
theorem dL_does_242 : decode cL_does 242 = .ok (.iload 4, 2) := by decide +kernel
theorem dL_does_244 : decode cL_does 244 = .ok (.bipush (-4), 2) := by decide +kernel
theorem dL_does_246 : decode cL_does 246 = .ok (.if_icmp .ne 7, 3) := by decide +kernel
theorem dL_does_249 : decode cL_does 249 = .ok (.iconst 0, 1) := by decide +kernel
theorem dL_does_250 : decode cL_does 250 = .ok (.goto 5, 3) := by decide +kernel
theorem dL_does_253 : decode cL_does 253 = .ok (.iload 4, 2) := by decide +kernel
theorem dL_does_255 : decode cL_does 255 = .ok (.ireturn, 1) := by decide +kernel
theorem dL_does_256 : decode cL_does 256 = .ok (.iload_n 1, 1) := by decide +kernel
theorem dL_does_257 : decode cL_does 257 = .ok (.iconst 4, 1) := by decide +kernel
theorem dL_does_258 : decode cL_does 258 = .ok (.ishr, 1) := by decide +kernel
theorem dL_does_259 : decode cL_does 259 = .ok (.iconst 1, 1) := by decide +kernel
theorem dL_does_260 : decode cL_does 260 = .ok (.iand, 1) := by decide +kernel
theorem dL_does_261 : decode cL_does 261 = .ok (.istore 5, 2) := by decide +kernel
theorem dL_does_263 : decode cL_does 263 = .ok (.aload_n 0, 1) := by decide +kernel
theorem dL_does_264 : decode cL_does 264 = .ok (.iload 5, 2) := by decide +kernel
theorem dL_does_266 : decode cL_does 266 = .ok (.iload 5, 2) := by decide +kernel
theorem dL_does_268 : decode cL_does 268 = .ok (.ifCond .ne 13, 3) := by decide +kernel
theorem dL_does_271 : decode cL_does 271 = .ok (.iload_n 1, 1) := by decide +kernel
theorem dL_does_272 : decode cL_does 272 = .ok (.iconst 5, 1) := by decide +kernel
theorem dL_does_273 : decode cL_does 273 = .ok (.ishr, 1) := by decide +kernel
theorem dL_does_274 : decode cL_does 274 = .ok (.iconst 3, 1) := by decide +kernel
theorem dL_does_275 : decode cL_does 275 = .ok (.invokestatic 8, 3) := by decide +kernel
theorem dL_does_278 : decode cL_does 278 = .ok (.goto 12, 3) := by decide +kernel
theorem dL_does_281 : decode cL_does 281 = .ok (.iconst 1, 1) := by decide +kernel
theorem dL_does_282 : decode cL_does 282 = .ok (.iload_n 1, 1) := by decide +kernel
theorem dL_does_283 : decode cL_does 283 = .ok (.iconst 5, 1) := by decide +kernel
theorem dL_does_284 : decode cL_does 284 = .ok (.ishr, 1) := by decide +kernel
theorem dL_does_285 : decode cL_does 285 = .ok (.iconst 4, 1) := by decide +kernel
theorem dL_does_286 : decode cL_does 286 = .ok (.invokestatic 8, 3) := by decide +kernel
theorem dL_does_289 : decode cL_does 289 = .ok (.iadd, 1) := by decide +kernel
theorem dL_does_290 : decode cL_does 290 = .ok (.invokevirtual 46, 3) := by decide +kernel
theorem dL_does_293 : decode cL_does 293 = .ok (.istore 4, 2) := by decide +kernel
theorem dL_does_295 : decode cL_does 295 = .ok (.iload 4, 2) := by decide +kernel
theorem dL_does_297 : decode cL_does 297 = .ok (.bipush (-5), 2) := by decide +kernel
theorem dL_does_299 : decode cL_does 299 = .ok (.if_icmp .ne 7, 3) := by decide +kernel
theorem dL_does_302 : decode cL_does 302 = .ok (.iconst 0, 1) := by decide +kernel
theorem dL_does_303 : decode cL_does 303 = .ok (.goto 5, 3) := by decide +kernel
theorem dL_does_306 : decode cL_does 306 = .ok (.iload 4, 2) := by decide +kernel
theorem dL_does_308 : decode cL_does 308 = .ok (.ireturn, 1) := by decide +kernel
theorem dL_does_309 : decode cL_does 309 = .ok (.aload_n 0, 1) := by decide +kernel
theorem dL_does_310 : decode cL_does 310 = .ok (.iload_n 2, 1) := by decide +kernel
theorem dL_does_311 : decode cL_does 311 = .ok (.invokevirtual 49, 3) := by decide +kernel
theorem dL_does_314 : decode cL_does 314 = .ok (.ireturn, 1) := by decide +kernel
theorem dL_isSo_0 : decode cL_isSo 0 = .ok (.iconst 0, 1) := by decide +kernel
theorem dL_isSo_1 : decode cL_isSo 1 = .ok (.istore_n 1, 1) := by decide +kernel
theorem dL_isSo_2 : decode cL_isSo 2 = .ok (.iconst 0, 1) := by decide +kernel
theorem dL_isSo_3 : decode cL_isSo 3 = .ok (.istore_n 2, 1) := by decide +kernel
theorem dL_isSo_4 : decode cL_isSo 4 = .ok (.iconst 0, 1) := by decide +kernel
theorem dL_isSo_5 : decode cL_isSo 5 = .ok (.istore_n 3, 1) := by decide +kernel
theorem dL_isSo_6 : decode cL_isSo 6 = .ok (.iconst 0, 1) := by decide +kernel
theorem dL_isSo_7 : decode cL_isSo 7 = .ok (.istore 4, 2) := by decide +kernel
theorem dL_isSo_9 : decode cL_isSo 9 = .ok (.iconst 0, 1) := by decide +kernel
theorem dL_isSo_10 : decode cL_isSo 10 = .ok (.istore 5, 2) := by decide +kernel
theorem dL_isSo_12 : decode cL_isSo 12 = .ok (.iconst 0, 1) := by decide +kernel
theorem dL_isSo_13 : decode cL_isSo 13 = .ok (.istore 6, 2) := by decide +kernel
theorem dL_isSo_15 : decode cL_isSo 15 = .ok (.iconst 0, 1) := by decide +kernel
theorem dL_isSo_16 : decode cL_isSo 16 = .ok (.istore 7, 2) := by decide +kernel
theorem dL_isSo_18 : decode cL_isSo 18 = .ok (.iconst 0, 1) := by decide +kernel
theorem dL_isSo_19 : decode cL_isSo 19 = .ok (.istore 8, 2) := by decide +kernel
theorem dL_isSo_21 : decode cL_isSo 21 = .ok (.iconst 1, 1) := by decide +kernel
theorem dL_isSo_22 : decode cL_isSo 22 = .ok (.istore 9, 2) := by decide +kernel
theorem dL_isSo_24 : decode cL_isSo 24 = .ok (.iconst 0, 1) := by decide +kernel
theorem dL_isSo_25 : decode cL_isSo 25 = .ok (.istore 10, 2) := by decide +kernel
theorem dL_isSo_27 : decode cL_isSo 27 = .ok (.iload 10, 2) := by decide +kernel
theorem dL_isSo_29 : decode cL_isSo 29 = .ok (.bipush 24, 2) := by decide +kernel
theorem dL_isSo_31 : decode cL_isSo 31 = .ok (.if_icmp .ge 359, 3) := by decide +kernel
theorem dL_isSo_34 : decode cL_isSo 34 = .ok (.aload_n 0, 1) := by decide +kernel
theorem dL_isSo_35 : decode cL_isSo 35 = .ok (.iload 10, 2) := by decide +kernel
theorem dL_isSo_37 : decode cL_isSo 37 = .ok (.iconst 3, 1) := by decide +kernel
theorem dL_isSo_38 : decode cL_isSo 38 = .ok (.invokevirtual 14, 3) := by decide +kernel
theorem dL_isSo_41 : decode cL_isSo 41 = .ok (.istore 11, 2) := by decide +kernel
theorem dL_isSo_43 : decode cL_isSo 43 = .ok (.iload 11, 2) := by decide +kernel
theorem dL_isSo_45 : decode cL_isSo 45 = .ok (.ifCond .lt 339, 3) := by decide +kernel
theorem dL_isSo_48 : decode cL_isSo 48 = .ok (.aload_n 0, 1) := by decide +kernel
theorem dL_isSo_49 : decode cL_isSo 49 = .ok (.iload 10, 2) := by decide +kernel
theorem dL_isSo_51 : decode cL_isSo 51 = .ok (.iconst 0, 1) := by decide +kernel
theorem dL_isSo_52 : decode cL_isSo 52 = .ok (.invokevirtual 14, 3) := by decide +kernel
theorem dL_isSo_55 : decode cL_isSo 55 = .ok (.istore 12, 2) := by decide +kernel
theorem dL_isSo_57 : decode cL_isSo 57 = .ok (.iload 10, 2) := by decide +kernel
theorem dL_isSo_59 : decode cL_isSo 59 = .ok (.ifCond .ne 7, 3) := by decide +kernel
theorem dL_isSo_62 : decode cL_isSo 62 = .ok (.iconst 0, 1) := by decide +kernel
theorem dL_isSo_63 : decode cL_isSo 63 = .ok (.goto 11, 3) := by decide +kernel
theorem dL_isSo_66 : decode cL_isSo 66 = .ok (.aload_n 0, 1) := by decide +kernel
theorem dL_isSo_67 : decode cL_isSo 67 = .ok (.iload 10, 2) := by decide +kernel
theorem dL_isSo_69 : decode cL_isSo 69 = .ok (.iload 12, 2) := by decide +kernel
theorem dL_isSo_71 : decode cL_isSo 71 = .ok (.invokevirtual 52, 3) := by decide +kernel
theorem dL_isSo_74 : decode cL_isSo 74 = .ok (.istore 13, 2) := by decide +kernel
theorem dL_isSo_76 : decode cL_isSo 76 = .ok (.aload_n 0, 1) := by decide +kernel
theorem dL_isSo_77 : decode cL_isSo 77 = .ok (.iload 10, 2) := by decide +kernel
theorem dL_isSo_79 : decode cL_isSo 79 = .ok (.iconst 1, 1) := by decide +kernel
theorem dL_isSo_80 : decode cL_isSo 80 = .ok (.invokevirtual 14, 3) := by decide +kernel
theorem dL_isSo_83 : decode cL_isSo 83 = .ok (.iconst 1, 1) := by decide +kernel
theorem dL_isSo_84 : decode cL_isSo 84 = .ok (.if_icmp .ne 7, 3) := by decide +kernel
theorem dL_isSo_87 : decode cL_isSo 87 = .ok (.iconst 1, 1) := by decide +kernel
theorem dL_isSo_88 : decode cL_isSo 88 = .ok (.goto 4, 3) := by decide +kernel
theorem dL_isSo_91 : decode cL_isSo 91 = .ok (.iconst 0, 1) := by decide +kernel
theorem dL_isSo_92 : decode cL_isSo 92 = .ok (.istore 14, 2) := by decide +kernel
theorem dL_isSo_94 : decode cL_isSo 94 = .ok (.iinc 1 1, 3) := by decide +kernel
theorem dL_isSo_97 : decode cL_isSo 97 = .ok (.iload_n 2, 1) := by decide +kernel
theorem dL_isSo_98 : decode cL_isSo 98 = .ok (.iload 11, 2) := by decide +kernel
theorem dL_isSo_100 : decode cL_isSo 100 = .ok (.iload 10, 2) := by decide +kernel
theorem dL_isSo_102 : decode cL_isSo 102 = .ok (.if_icmp .ne 7, 3) := by decide +kernel
theorem dL_isSo_105 : decode cL_isSo 105 = .ok (.iconst 1, 1) := by decide +kernel
theorem dL_isSo_106 : decode cL_isSo 106 = .ok (.goto 4, 3) := by decide +kernel
theorem dL_isSo_109 : decode cL_isSo 109 = .ok (.iconst 0, 1) := by decide +kernel
theorem dL_isSo_110 : decode cL_isSo 110 = .ok (.iadd, 1) := by decide +kernel
theorem dL_isSo_111 : decode cL_isSo 111 = .ok (.istore_n 2, 1) := by decide +kernel
theorem dL_isSo_112 : decode cL_isSo 112 = .ok (.iload_n 3, 1) := by decide +kernel
theorem dL_isSo_113 : decode cL_isSo 113 = .ok (.iload 14, 2) := by decide +kernel
theorem dL_isSo_115 : decode cL_isSo 115 = .ok (.ifCond .eq 7, 3) := by decide +kernel
theorem dL_isSo_118 : decode cL_isSo 118 = .ok (.iconst 1, 1) := by decide +kernel
theorem dL_isSo_119 : decode cL_isSo 119 = .ok (.goto 4, 3) := by decide +kernel
theorem dL_isSo_122 : decode cL_isSo 122 = .ok (.iconst 0, 1) := by decide +kernel
theorem dL_isSo_123 : decode cL_isSo 123 = .ok (.iadd, 1) := by decide +kernel
theorem dL_isSo_124 : decode cL_isSo 124 = .ok (.istore_n 3, 1) := by decide +kernel
theorem dL_isSo_125 : decode cL_isSo 125 = .ok (.iload 4, 2) := by decide +kernel
theorem dL_isSo_127 : decode cL_isSo 127 = .ok (.iload 10, 2) := by decide +kernel
theorem dL_isSo_129 : decode cL_isSo 129 = .ok (.ifCond .le 12, 3) := by decide +kernel
theorem dL_isSo_132 : decode cL_isSo 132 = .ok (.iload 14, 2) := by decide +kernel
theorem dL_isSo_134 : decode cL_isSo 134 = .ok (.ifCond .ne 7, 3) := by decide +kernel
theorem dL_isSo_137 : decode cL_isSo 137 = .ok (.iconst 1, 1) := by decide +kernel
theorem dL_isSo_138 : decode cL_isSo 138 = .ok (.goto 4, 3) := by decide +kernel
theorem dL_isSo_141 : decode cL_isSo 141 = .ok (.iconst 0, 1) := by decide +kernel
theorem dL_isSo_142 : decode cL_isSo 142 = .ok (.iadd, 1) := by decide +kernel
theorem dL_isSo_143 : decode cL_isSo 143 = .ok (.istore 4, 2) := by decide +kernel
theorem dL_isSo_145 : decode cL_isSo 145 = .ok (.iload 5, 2) := by decide +kernel
theorem dL_isSo_147 : decode cL_isSo 147 = .ok (.iload 11, 2) := by decide +kernel
theorem dL_isSo_149 : decode cL_isSo 149 = .ok (.iload 10, 2) := by decide +kernel
theorem dL_isSo_151 : decode cL_isSo 151 = .ok (.if_icmp .ne 8, 3) := by decide +kernel
theorem dL_isSo_154 : decode cL_isSo 154 = .ok (.bipush 8, 2) := by decide +kernel
theorem dL_isSo_156 : decode cL_isSo 156 = .ok (.goto 4, 3) := by decide +kernel
theorem dL_isSo_159 : decode cL_isSo 159 = .ok (.iconst 0, 1) := by decide +kernel
theorem dL_isSo_160 : decode cL_isSo 160 = .ok (.iload 14, 2) := by decide +kernel
theorem dL_isSo_162 : decode cL_isSo 162 = .ok (.ifCond .eq 12, 3) := by decide +kernel
theorem dL_isSo_165 : decode cL_isSo 165 = .ok (.iconst 1, 1) := by decide +kernel
theorem dL_isSo_166 : decode cL_isSo 166 = .ok (.iconst 2, 1) := by decide +kernel
theorem dL_isSo_167 : decode cL_isSo 167 = .ok (.iload 13, 2) := by decide +kernel
theorem dL_isSo_169 : decode cL_isSo 169 = .ok (.imul, 1) := by decide +kernel
theorem dL_isSo_170 : decode cL_isSo 170 = .ok (.iadd, 1) := by decide +kernel
theorem dL_isSo_171 : decode cL_isSo 171 = .ok (.goto 4, 3) := by decide +kernel
theorem dL_isSo_174 : decode cL_isSo 174 = .ok (.iconst 0, 1) := by decide +kernel
theorem dL_isSo_175 : decode cL_isSo 175 = .ok (.iadd, 1) := by decide +kernel
theorem dL_isSo_176 : decode cL_isSo 176 = .ok (.iadd, 1) := by decide +kernel
theorem dL_isSo_177 : decode cL_isSo 177 = .ok (.istore 5, 2) := by decide +kernel
theorem dL_isSo_179 : decode cL_isSo 179 = .ok (.iload 7, 2) := by decide +kernel
theorem dL_isSo_181 : decode cL_isSo 181 = .ok (.aload_n 0, 1) := by decide +kernel
theorem dL_isSo_182 : decode cL_isSo 182 = .ok (.iload 10, 2) := by decide +kernel
theorem dL_isSo_184 : decode cL_isSo 184 = .ok (.bipush 6, 2) := by decide +kernel
theorem dL_isSo_186 : decode cL_isSo 186 = .ok (.invokevirtual 14, 3) := by decide +kernel
theorem dL_isSo_189 : decode cL_isSo 189 = .ok (.ifCond .ne 7, 3) := by decide +kernel
theorem dL_isSo_192 : decode cL_isSo 192 = .ok (.iconst 1, 1) := by decide +kernel
theorem dL_isSo_193 : decode cL_isSo 193 = .ok (.goto 4, 3) := by decide +kernel
theorem dL_isSo_196 : decode cL_isSo 196 = .ok (.iconst 0, 1) := by decide +kernel
theorem dL_isSo_197 : decode cL_isSo 197 = .ok (.iadd, 1) := by decide +kernel
theorem dL_isSo_198 : decode cL_isSo 198 = .ok (.istore 7, 2) := by decide +kernel
theorem dL_isSo_200 : decode cL_isSo 200 = .ok (.iload 6, 2) := by decide +kernel
theorem dL_isSo_202 : decode cL_isSo 202 = .ok (.aload_n 0, 1) := by decide +kernel
theorem dL_isSo_203 : decode cL_isSo 203 = .ok (.iload 10, 2) := by decide +kernel
theorem dL_isSo_205 : decode cL_isSo 205 = .ok (.bipush 6, 2) := by decide +kernel
theorem dL_isSo_207 : decode cL_isSo 207 = .ok (.invokevirtual 14, 3) := by decide +kernel
theorem dL_isSo_210 : decode cL_isSo 210 = .ok (.iadd, 1) := by decide +kernel
theorem dL_isSo_211 : decode cL_isSo 211 = .ok (.istore 6, 2) := by decide +kernel
theorem dL_isSo_213 : decode cL_isSo 213 = .ok (.aload_n 0, 1) := by decide +kernel
theorem dL_isSo_214 : decode cL_isSo 214 = .ok (.iload 10, 2) := by decide +kernel
theorem dL_isSo_216 : decode cL_isSo 216 = .ok (.iconst 4, 1) := by decide +kernel
theorem dL_isSo_217 : decode cL_isSo 217 = .ok (.invokevirtual 14, 3) := by decide +kernel
theorem dL_isSo_220 : decode cL_isSo 220 = .ok (.iload 8, 2) := by decide +kernel
theorem dL_isSo_222 : decode cL_isSo 222 = .ok (.if_icmp .le 13, 3) := by decide +kernel
theorem dL_isSo_225 : decode cL_isSo 225 = .ok (.aload_n 0, 1) := by decide +kernel
theorem dL_isSo_226 : decode cL_isSo 226 = .ok (.iload 10, 2) := by decide +kernel
theorem dL_isSo_228 : decode cL_isSo 228 = .ok (.iconst 4, 1) := by decide +kernel
theorem dL_isSo_229 : decode cL_isSo 229 = .ok (.invokevirtual 14, 3) := by decide +kernel
theorem dL_isSo_232 : decode cL_isSo 232 = .ok (.goto 5, 3) := by decide +kernel
theorem dL_isSo_235 : decode cL_isSo 235 = .ok (.iload 8, 2) := by decide +kernel
theorem dL_isSo_237 : decode cL_isSo 237 = .ok (.istore 8, 2) := by decide +kernel
theorem dL_isSo_239 : decode cL_isSo 239 = .ok (.iload 9, 2) := by decide +kernel
theorem dL_isSo_241 : decode cL_isSo 241 = .ok (.ifCond .eq 140, 3) := by decide +kernel
theorem dL_isSo_244 : decode cL_isSo 244 = .ok (.aload_n 0, 1) := by decide +kernel
theorem dL_isSo_245 : decode cL_isSo 245 = .ok (.iload 11, 2) := by decide +kernel
theorem dL_isSo_247 : decode cL_isSo 247 = .ok (.iconst 3, 1) := by decide +kernel
theorem dL_isSo_248 : decode cL_isSo 248 = .ok (.invokevirtual 14, 3) := by decide +kernel
theorem dL_isSo_251 : decode cL_isSo 251 = .ok (.iload 11, 2) := by decide +kernel
theorem dL_isSo_253 : decode cL_isSo 253 = .ok (.if_icmp .ne 128, 3) := by decide +kernel
theorem dL_isSo_256 : decode cL_isSo 256 = .ok (.iload 11, 2) := by decide +kernel
theorem dL_isSo_258 : decode cL_isSo 258 = .ok (.iload 10, 2) := by decide +kernel
theorem dL_isSo_260 : decode cL_isSo 260 = .ok (.if_icmp .ne 7, 3) := by decide +kernel
theorem dL_isSo_263 : decode cL_isSo 263 = .ok (.iconst 1, 1) := by decide +kernel
theorem dL_isSo_264 : decode cL_isSo 264 = .ok (.goto 4, 3) := by decide +kernel
theorem dL_isSo_267 : decode cL_isSo 267 = .ok (.iconst 0, 1) := by decide +kernel
theorem dL_isSo_268 : decode cL_isSo 268 = .ok (.aload_n 0, 1) := by decide +kernel
theorem dL_isSo_269 : decode cL_isSo 269 = .ok (.iload 10, 2) := by decide +kernel
theorem dL_isSo_271 : decode cL_isSo 271 = .ok (.iconst 4, 1) := by decide +kernel
theorem dL_isSo_272 : decode cL_isSo 272 = .ok (.invokevirtual 14, 3) := by decide +kernel
theorem dL_isSo_275 : decode cL_isSo 275 = .ok (.ifCond .ne 7, 3) := by decide +kernel
theorem dL_isSo_278 : decode cL_isSo 278 = .ok (.iconst 1, 1) := by decide +kernel
theorem dL_isSo_279 : decode cL_isSo 279 = .ok (.goto 4, 3) := by decide +kernel
theorem dL_isSo_282 : decode cL_isSo 282 = .ok (.iconst 0, 1) := by decide +kernel
theorem dL_isSo_283 : decode cL_isSo 283 = .ok (.if_icmp .ne 98, 3) := by decide +kernel
theorem dL_isSo_286 : decode cL_isSo 286 = .ok (.aload_n 0, 1) := by decide +kernel
theorem dL_isSo_287 : decode cL_isSo 287 = .ok (.iload 10, 2) := by decide +kernel
theorem dL_isSo_289 : decode cL_isSo 289 = .ok (.bipush 9, 2) := by decide +kernel
theorem dL_isSo_291 : decode cL_isSo 291 = .ok (.invokevirtual 14, 3) := by decide +kernel
theorem dL_isSo_294 : decode cL_isSo 294 = .ok (.iconst 1, 1) := by decide +kernel
theorem dL_isSo_295 : decode cL_isSo 295 = .ok (.aload_n 0, 1) := by decide +kernel
theorem dL_isSo_296 : decode cL_isSo 296 = .ok (.iload 10, 2) := by decide +kernel
theorem dL_isSo_298 : decode cL_isSo 298 = .ok (.iconst 5, 1) := by decide +kernel
theorem dL_isSo_299 : decode cL_isSo 299 = .ok (.invokevirtual 14, 3) := by decide +kernel
theorem dL_isSo_302 : decode cL_isSo 302 = .ok (.iadd, 1) := by decide +kernel
theorem dL_isSo_303 : decode cL_isSo 303 = .ok (.if_icmp .ne 78, 3) := by decide +kernel
theorem dL_isSo_306 : decode cL_isSo 306 = .ok (.aload_n 0, 1) := by decide +kernel
theorem dL_isSo_307 : decode cL_isSo 307 = .ok (.iload 10, 2) := by decide +kernel
theorem dL_isSo_309 : decode cL_isSo 309 = .ok (.iconst 5, 1) := by decide +kernel
theorem dL_isSo_310 : decode cL_isSo 310 = .ok (.invokevirtual 14, 3) := by decide +kernel
theorem dL_isSo_313 : decode cL_isSo 313 = .ok (.aload_n 0, 1) := by decide +kernel
theorem dL_isSo_314 : decode cL_isSo 314 = .ok (.iload 10, 2) := by decide +kernel
theorem dL_isSo_316 : decode cL_isSo 316 = .ok (.iload 11, 2) := by decide +kernel
theorem dL_isSo_318 : decode cL_isSo 318 = .ok (.invokevirtual 52, 3) := by decide +kernel
theorem dL_isSo_321 : decode cL_isSo 321 = .ok (.if_icmp .lt 60, 3) := by decide +kernel
theorem dL_isSo_324 : decode cL_isSo 324 = .ok (.iload 14, 2) := by decide +kernel
theorem dL_isSo_326 : decode cL_isSo 326 = .ok (.ifCond .eq 34, 3) := by decide +kernel
theorem dL_isSo_329 : decode cL_isSo 329 = .ok (.aload_n 0, 1) := by decide +kernel
theorem dL_isSo_330 : decode cL_isSo 330 = .ok (.iload 12, 2) := by decide +kernel
theorem dL_isSo_332 : decode cL_isSo 332 = .ok (.iconst 3, 1) := by decide +kernel
theorem dL_isSo_333 : decode cL_isSo 333 = .ok (.invokevirtual 14, 3) := by decide +kernel
theorem dL_isSo_336 : decode cL_isSo 336 = .ok (.iload 11, 2) := by decide +kernel
theorem dL_isSo_338 : decode cL_isSo 338 = .ok (.if_icmp .ne 43, 3) := by decide +kernel
theorem dL_isSo_341 : decode cL_isSo 341 = .ok (.aload_n 0, 1) := by decide +kernel
theorem dL_isSo_342 : decode cL_isSo 342 = .ok (.iload 12, 2) := by decide +kernel
theorem dL_isSo_344 : decode cL_isSo 344 = .ok (.bipush 8, 2) := by decide +kernel
theorem dL_isSo_346 : decode cL_isSo 346 = .ok (.invokevirtual 14, 3) := by decide +kernel
theorem dL_isSo_349 : decode cL_isSo 349 = .ok (.aload_n 0, 1) := by decide +kernel
theorem dL_isSo_350 : decode cL_isSo 350 = .ok (.iload 10, 2) := by decide +kernel
theorem dL_isSo_352 : decode cL_isSo 352 = .ok (.bipush 8, 2) := by decide +kernel
theorem dL_isSo_354 : decode cL_isSo 354 = .ok (.invokevirtual 14, 3) := by decide +kernel
theorem dL_isSo_357 : decode cL_isSo 357 = .ok (.if_icmp .ne 24, 3) := by decide +kernel
theorem dL_isSo_360 : decode cL_isSo 360 = .ok (.iload 10, 2) := by decide +kernel
theorem dL_isSo_362 : decode cL_isSo 362 = .ok (.ifCond .gt 15, 3) := by decide +kernel
theorem dL_isSo_365 : decode cL_isSo 365 = .ok (.iload 12, 2) := by decide +kernel
theorem dL_isSo_367 : decode cL_isSo 367 = .ok (.bipush (-5), 2) := by decide +kernel
theorem dL_isSo_369 : decode cL_isSo 369 = .ok (.if_icmp .ne 12, 3) := by decide +kernel
theorem dL_isSo_372 : decode cL_isSo 372 = .ok (.iload 14, 2) := by decide +kernel
theorem dL_isSo_374 : decode cL_isSo 374 = .ok (.ifCond .ne 7, 3) := by decide +kernel
theorem dL_isSo_377 : decode cL_isSo 377 = .ok (.iconst 1, 1) := by decide +kernel
theorem dL_isSo_378 : decode cL_isSo 378 = .ok (.goto 4, 3) := by decide +kernel
theorem dL_isSo_381 : decode cL_isSo 381 = .ok (.iconst 0, 1) := by decide +kernel
theorem dL_isSo_382 : decode cL_isSo 382 = .ok (.istore 9, 2) := by decide +kernel
theorem dL_isSo_384 : decode cL_isSo 384 = .ok (.iinc 10 1, 3) := by decide +kernel
theorem dL_isSo_387 : decode cL_isSo 387 = .ok (.goto (-360), 3) := by decide +kernel
theorem dL_isSo_390 : decode cL_isSo 390 = .ok (.iload 9, 2) := by decide +kernel
theorem dL_isSo_392 : decode cL_isSo 392 = .ok (.ifCond .eq 97, 3) := by decide +kernel
theorem dL_isSo_395 : decode cL_isSo 395 = .ok (.iload_n 1, 1) := by decide +kernel
theorem dL_isSo_396 : decode cL_isSo 396 = .ok (.aload_n 0, 1) := by decide +kernel
theorem dL_isSo_397 : decode cL_isSo 397 = .ok (.iconst 0, 1) := by decide +kernel
theorem dL_isSo_398 : decode cL_isSo 398 = .ok (.invokevirtual 23, 3) := by decide +kernel
theorem dL_isSo_401 : decode cL_isSo 401 = .ok (.if_icmp .ne 88, 3) := by decide +kernel
theorem dL_isSo_404 : decode cL_isSo 404 = .ok (.iload_n 2, 1) := by decide +kernel
theorem dL_isSo_405 : decode cL_isSo 405 = .ok (.aload_n 0, 1) := by decide +kernel
theorem dL_isSo_406 : decode cL_isSo 406 = .ok (.iconst 1, 1) := by decide +kernel
theorem dL_isSo_407 : decode cL_isSo 407 = .ok (.invokevirtual 23, 3) := by decide +kernel
theorem dL_isSo_410 : decode cL_isSo 410 = .ok (.if_icmp .ne 79, 3) := by decide +kernel
theorem dL_isSo_413 : decode cL_isSo 413 = .ok (.iload_n 2, 1) := by decide +kernel
theorem dL_isSo_414 : decode cL_isSo 414 = .ok (.iload_n 3, 1) := by decide +kernel
theorem dL_isSo_415 : decode cL_isSo 415 = .ok (.iadd, 1) := by decide +kernel
theorem dL_isSo_416 : decode cL_isSo 416 = .ok (.iload_n 1, 1) := by decide +kernel
theorem dL_isSo_417 : decode cL_isSo 417 = .ok (.if_icmp .ne 72, 3) := by decide +kernel
theorem dL_isSo_420 : decode cL_isSo 420 = .ok (.iload 4, 2) := by decide +kernel
theorem dL_isSo_422 : decode cL_isSo 422 = .ok (.aload_n 0, 1) := by decide +kernel
theorem dL_isSo_423 : decode cL_isSo 423 = .ok (.bipush 6, 2) := by decide +kernel
theorem dL_isSo_425 : decode cL_isSo 425 = .ok (.invokevirtual 23, 3) := by decide +kernel
theorem dL_isSo_428 : decode cL_isSo 428 = .ok (.if_icmp .ne 61, 3) := by decide +kernel
theorem dL_isSo_431 : decode cL_isSo 431 = .ok (.iload 5, 2) := by decide +kernel
theorem dL_isSo_433 : decode cL_isSo 433 = .ok (.aload_n 0, 1) := by decide +kernel
theorem dL_isSo_434 : decode cL_isSo 434 = .ok (.iconst 2, 1) := by decide +kernel
theorem dL_isSo_435 : decode cL_isSo 435 = .ok (.invokevirtual 23, 3) := by decide +kernel
theorem dL_isSo_438 : decode cL_isSo 438 = .ok (.if_icmp .ne 51, 3) := by decide +kernel
theorem dL_isSo_441 : decode cL_isSo 441 = .ok (.iload 7, 2) := by decide +kernel
theorem dL_isSo_443 : decode cL_isSo 443 = .ok (.aload_n 0, 1) := by decide +kernel
theorem dL_isSo_444 : decode cL_isSo 444 = .ok (.iconst 5, 1) := by decide +kernel
theorem dL_isSo_445 : decode cL_isSo 445 = .ok (.invokevirtual 23, 3) := by decide +kernel
theorem dL_isSo_448 : decode cL_isSo 448 = .ok (.if_icmp .ne 41, 3) := by decide +kernel
theorem dL_isSo_451 : decode cL_isSo 451 = .ok (.iload 6, 2) := by decide +kernel
theorem dL_isSo_453 : decode cL_isSo 453 = .ok (.aload_n 0, 1) := by decide +kernel
theorem dL_isSo_454 : decode cL_isSo 454 = .ok (.iconst 3, 1) := by decide +kernel
theorem dL_isSo_455 : decode cL_isSo 455 = .ok (.invokevirtual 23, 3) := by decide +kernel
theorem dL_isSo_458 : decode cL_isSo 458 = .ok (.if_icmp .gt 31, 3) := by decide +kernel
theorem dL_isSo_461 : decode cL_isSo 461 = .ok (.iload 8, 2) := by decide +kernel
theorem dL_isSo_463 : decode cL_isSo 463 = .ok (.aload_n 0, 1) := by decide +kernel
theorem dL_isSo_464 : decode cL_isSo 464 = .ok (.bipush 7, 2) := by decide +kernel
theorem dL_isSo_466 : decode cL_isSo 466 = .ok (.invokevirtual 23, 3) := by decide +kernel
theorem dL_isSo_469 : decode cL_isSo 469 = .ok (.if_icmp .ne 20, 3) := by decide +kernel
theorem dL_isSo_472 : decode cL_isSo 472 = .ok (.aload_n 0, 1) := by decide +kernel
theorem dL_isSo_473 : decode cL_isSo 473 = .ok (.iconst 4, 1) := by decide +kernel
theorem dL_isSo_474 : decode cL_isSo 474 = .ok (.invokevirtual 23, 3) := by decide +kernel
theorem dL_isSo_477 : decode cL_isSo 477 = .ok (.aload_n 0, 1) := by decide +kernel
theorem dL_isSo_478 : decode cL_isSo 478 = .ok (.iconst 3, 1) := by decide +kernel
theorem dL_isSo_479 : decode cL_isSo 479 = .ok (.invokevirtual 23, 3) := by decide +kernel
theorem dL_isSo_482 : decode cL_isSo 482 = .ok (.if_icmp .lt 7, 3) := by decide +kernel
theorem dL_isSo_485 : decode cL_isSo 485 = .ok (.iconst 1, 1) := by decide +kernel
theorem dL_isSo_486 : decode cL_isSo 486 = .ok (.goto 4, 3) := by decide +kernel
theorem dL_isSo_489 : decode cL_isSo 489 = .ok (.iconst 0, 1) := by decide +kernel
theorem dL_isSo_490 : decode cL_isSo 490 = .ok (.ireturn, 1) := by decide +kernel
theorem dL_isWaySo_0 : decode cL_isWaySo 0 = .ok (.aload_n 0, 1) := by decide +kernel
theorem dL_isWaySo_1 : decode cL_isWaySo 1 = .ok (.iload_n 1, 1) := by decide +kernel
theorem dL_isWaySo_2 : decode cL_isWaySo 2 = .ok (.iconst 4, 1) := by decide +kernel
theorem dL_isWaySo_3 : decode cL_isWaySo 3 = .ok (.invokevirtual 14, 3) := by decide +kernel
theorem dL_isWaySo_6 : decode cL_isWaySo 6 = .ok (.istore_n 2, 1) := by decide +kernel
theorem dL_isWaySo_7 : decode cL_isWaySo 7 = .ok (.aload_n 0, 1) := by decide +kernel
theorem dL_isWaySo_8 : decode cL_isWaySo 8 = .ok (.iload_n 1, 1) := by decide +kernel
theorem dL_isWaySo_9 : decode cL_isWaySo 9 = .ok (.iconst 0, 1) := by decide +kernel
theorem dL_isWaySo_10 : decode cL_isWaySo 10 = .ok (.invokevirtual 55, 3) := by decide +kernel
theorem dL_isWaySo_13 : decode cL_isWaySo 13 = .ok (.istore_n 3, 1) := by decide +kernel
theorem dL_isWaySo_14 : decode cL_isWaySo 14 = .ok (.iconst 0, 1) := by decide +kernel
theorem dL_isWaySo_15 : decode cL_isWaySo 15 = .ok (.istore 4, 2) := by decide +kernel
theorem dL_isWaySo_17 : decode cL_isWaySo 17 = .ok (.iload_n 3, 1) := by decide +kernel
theorem dL_isWaySo_18 : decode cL_isWaySo 18 = .ok (.aload_n 0, 1) := by decide +kernel
theorem dL_isWaySo_19 : decode cL_isWaySo 19 = .ok (.iload_n 1, 1) := by decide +kernel
theorem dL_isWaySo_20 : decode cL_isWaySo 20 = .ok (.iconst 3, 1) := by decide +kernel
theorem dL_isWaySo_21 : decode cL_isWaySo 21 = .ok (.invokevirtual 14, 3) := by decide +kernel
theorem dL_isWaySo_24 : decode cL_isWaySo 24 = .ok (.if_icmp .ne 30, 3) := by decide +kernel
theorem dL_isWaySo_27 : decode cL_isWaySo 27 = .ok (.aload_n 0, 1) := by decide +kernel
theorem dL_isWaySo_28 : decode cL_isWaySo 28 = .ok (.iload_n 1, 1) := by decide +kernel
theorem dL_isWaySo_29 : decode cL_isWaySo 29 = .ok (.iload_n 2, 1) := by decide +kernel
theorem dL_isWaySo_30 : decode cL_isWaySo 30 = .ok (.invokevirtual 55, 3) := by decide +kernel
theorem dL_isWaySo_33 : decode cL_isWaySo 33 = .ok (.iload_n 1, 1) := by decide +kernel
theorem dL_isWaySo_34 : decode cL_isWaySo 34 = .ok (.if_icmp .ne 20, 3) := by decide +kernel
theorem dL_isWaySo_37 : decode cL_isWaySo 37 = .ok (.aload_n 0, 1) := by decide +kernel
theorem dL_isWaySo_38 : decode cL_isWaySo 38 = .ok (.iload_n 1, 1) := by decide +kernel
theorem dL_isWaySo_39 : decode cL_isWaySo 39 = .ok (.iload_n 2, 1) := by decide +kernel
theorem dL_isWaySo_40 : decode cL_isWaySo 40 = .ok (.iconst 1, 1) := by decide +kernel
theorem dL_isWaySo_41 : decode cL_isWaySo 41 = .ok (.iadd, 1) := by decide +kernel
theorem dL_isWaySo_42 : decode cL_isWaySo 42 = .ok (.invokevirtual 55, 3) := by decide +kernel
theorem dL_isWaySo_45 : decode cL_isWaySo 45 = .ok (.bipush (-5), 2) := by decide +kernel
theorem dL_isWaySo_47 : decode cL_isWaySo 47 = .ok (.if_icmp .ne 7, 3) := by decide +kernel
theorem dL_isWaySo_50 : decode cL_isWaySo 50 = .ok (.iconst 1, 1) := by decide +kernel
theorem dL_isWaySo_51 : decode cL_isWaySo 51 = .ok (.goto 4, 3) := by decide +kernel
theorem dL_isWaySo_54 : decode cL_isWaySo 54 = .ok (.iconst 0, 1) := by decide +kernel
theorem dL_isWaySo_55 : decode cL_isWaySo 55 = .ok (.istore 5, 2) := by decide +kernel
theorem dL_isWaySo_57 : decode cL_isWaySo 57 = .ok (.iconst 1, 1) := by decide +kernel
theorem dL_isWaySo_58 : decode cL_isWaySo 58 = .ok (.istore 6, 2) := by decide +kernel
theorem dL_isWaySo_60 : decode cL_isWaySo 60 = .ok (.iload 6, 2) := by decide +kernel
theorem dL_isWaySo_62 : decode cL_isWaySo 62 = .ok (.iload_n 2, 1) := by decide +kernel
theorem dL_isWaySo_63 : decode cL_isWaySo 63 = .ok (.if_icmp .gt 112, 3) := by decide +kernel
theorem dL_isWaySo_66 : decode cL_isWaySo 66 = .ok (.aload_n 0, 1) := by decide +kernel
theorem dL_isWaySo_67 : decode cL_isWaySo 67 = .ok (.iload_n 1, 1) := by decide +kernel
theorem dL_isWaySo_68 : decode cL_isWaySo 68 = .ok (.iload 6, 2) := by decide +kernel
theorem dL_isWaySo_70 : decode cL_isWaySo 70 = .ok (.invokevirtual 55, 3) := by decide +kernel
theorem dL_isWaySo_73 : decode cL_isWaySo 73 = .ok (.istore 7, 2) := by decide +kernel
theorem dL_isWaySo_75 : decode cL_isWaySo 75 = .ok (.aload_n 0, 1) := by decide +kernel
theorem dL_isWaySo_76 : decode cL_isWaySo 76 = .ok (.iload 7, 2) := by decide +kernel
theorem dL_isWaySo_78 : decode cL_isWaySo 78 = .ok (.iconst 0, 1) := by decide +kernel
theorem dL_isWaySo_79 : decode cL_isWaySo 79 = .ok (.invokevirtual 14, 3) := by decide +kernel
theorem dL_isWaySo_82 : decode cL_isWaySo 82 = .ok (.iload_n 3, 1) := by decide +kernel
theorem dL_isWaySo_83 : decode cL_isWaySo 83 = .ok (.if_icmp .ne 18, 3) := by decide +kernel
theorem dL_isWaySo_86 : decode cL_isWaySo 86 = .ok (.aload_n 0, 1) := by decide +kernel
theorem dL_isWaySo_87 : decode cL_isWaySo 87 = .ok (.iload 7, 2) := by decide +kernel
theorem dL_isWaySo_89 : decode cL_isWaySo 89 = .ok (.iconst 1, 1) := by decide +kernel
theorem dL_isWaySo_90 : decode cL_isWaySo 90 = .ok (.invokevirtual 14, 3) := by decide +kernel
theorem dL_isWaySo_93 : decode cL_isWaySo 93 = .ok (.iconst 1, 1) := by decide +kernel
theorem dL_isWaySo_94 : decode cL_isWaySo 94 = .ok (.if_icmp .ne 7, 3) := by decide +kernel
theorem dL_isWaySo_97 : decode cL_isWaySo 97 = .ok (.iconst 1, 1) := by decide +kernel
theorem dL_isWaySo_98 : decode cL_isWaySo 98 = .ok (.goto 4, 3) := by decide +kernel
theorem dL_isWaySo_101 : decode cL_isWaySo 101 = .ok (.iconst 0, 1) := by decide +kernel
theorem dL_isWaySo_102 : decode cL_isWaySo 102 = .ok (.istore 8, 2) := by decide +kernel
theorem dL_isWaySo_104 : decode cL_isWaySo 104 = .ok (.aload_n 0, 1) := by decide +kernel
theorem dL_isWaySo_105 : decode cL_isWaySo 105 = .ok (.iload_n 3, 1) := by decide +kernel
theorem dL_isWaySo_106 : decode cL_isWaySo 106 = .ok (.iconst 0, 1) := by decide +kernel
theorem dL_isWaySo_107 : decode cL_isWaySo 107 = .ok (.invokevirtual 14, 3) := by decide +kernel
theorem dL_isWaySo_110 : decode cL_isWaySo 110 = .ok (.iload 7, 2) := by decide +kernel
theorem dL_isWaySo_112 : decode cL_isWaySo 112 = .ok (.if_icmp .ne 17, 3) := by decide +kernel
theorem dL_isWaySo_115 : decode cL_isWaySo 115 = .ok (.aload_n 0, 1) := by decide +kernel
theorem dL_isWaySo_116 : decode cL_isWaySo 116 = .ok (.iload_n 3, 1) := by decide +kernel
theorem dL_isWaySo_117 : decode cL_isWaySo 117 = .ok (.iconst 1, 1) := by decide +kernel
theorem dL_isWaySo_118 : decode cL_isWaySo 118 = .ok (.invokevirtual 14, 3) := by decide +kernel
theorem dL_isWaySo_121 : decode cL_isWaySo 121 = .ok (.iconst 1, 1) := by decide +kernel
theorem dL_isWaySo_122 : decode cL_isWaySo 122 = .ok (.if_icmp .ne 7, 3) := by decide +kernel
theorem dL_isWaySo_125 : decode cL_isWaySo 125 = .ok (.iconst 1, 1) := by decide +kernel
theorem dL_isWaySo_126 : decode cL_isWaySo 126 = .ok (.goto 4, 3) := by decide +kernel
theorem dL_isWaySo_129 : decode cL_isWaySo 129 = .ok (.iconst 0, 1) := by decide +kernel
theorem dL_isWaySo_130 : decode cL_isWaySo 130 = .ok (.istore 9, 2) := by decide +kernel
theorem dL_isWaySo_132 : decode cL_isWaySo 132 = .ok (.iload 4, 2) := by decide +kernel
theorem dL_isWaySo_134 : decode cL_isWaySo 134 = .ok (.aload_n 0, 1) := by decide +kernel
theorem dL_isWaySo_135 : decode cL_isWaySo 135 = .ok (.iload_n 3, 1) := by decide +kernel
theorem dL_isWaySo_136 : decode cL_isWaySo 136 = .ok (.iload 7, 2) := by decide +kernel
theorem dL_isWaySo_138 : decode cL_isWaySo 138 = .ok (.invokevirtual 52, 3) := by decide +kernel
theorem dL_isWaySo_141 : decode cL_isWaySo 141 = .ok (.iadd, 1) := by decide +kernel
theorem dL_isWaySo_142 : decode cL_isWaySo 142 = .ok (.istore 4, 2) := by decide +kernel
theorem dL_isWaySo_144 : decode cL_isWaySo 144 = .ok (.iload 5, 2) := by decide +kernel
theorem dL_isWaySo_146 : decode cL_isWaySo 146 = .ok (.ifCond .eq 17, 3) := by decide +kernel
theorem dL_isWaySo_149 : decode cL_isWaySo 149 = .ok (.iload 8, 2) := by decide +kernel
theorem dL_isWaySo_151 : decode cL_isWaySo 151 = .ok (.ifCond .ne 8, 3) := by decide +kernel
theorem dL_isWaySo_154 : decode cL_isWaySo 154 = .ok (.iload 9, 2) := by decide +kernel
theorem dL_isWaySo_156 : decode cL_isWaySo 156 = .ok (.ifCond .eq 7, 3) := by decide +kernel
theorem dL_isWaySo_159 : decode cL_isWaySo 159 = .ok (.iconst 1, 1) := by decide +kernel
theorem dL_isWaySo_160 : decode cL_isWaySo 160 = .ok (.goto 4, 3) := by decide +kernel
theorem dL_isWaySo_163 : decode cL_isWaySo 163 = .ok (.iconst 0, 1) := by decide +kernel
theorem dL_isWaySo_164 : decode cL_isWaySo 164 = .ok (.istore 5, 2) := by decide +kernel
theorem dL_isWaySo_166 : decode cL_isWaySo 166 = .ok (.iload 7, 2) := by decide +kernel
theorem dL_isWaySo_168 : decode cL_isWaySo 168 = .ok (.istore_n 3, 1) := by decide +kernel
theorem dL_isWaySo_169 : decode cL_isWaySo 169 = .ok (.iinc 6 1, 3) := by decide +kernel
theorem dL_isWaySo_172 : decode cL_isWaySo 172 = .ok (.goto (-112), 3) := by decide +kernel
theorem dL_isWaySo_175 : decode cL_isWaySo 175 = .ok (.iload 5, 2) := by decide +kernel
theorem dL_isWaySo_177 : decode cL_isWaySo 177 = .ok (.ifCond .eq 18, 3) := by decide +kernel
theorem dL_isWaySo_180 : decode cL_isWaySo 180 = .ok (.iload 4, 2) := by decide +kernel
theorem dL_isWaySo_182 : decode cL_isWaySo 182 = .ok (.aload_n 0, 1) := by decide +kernel
theorem dL_isWaySo_183 : decode cL_isWaySo 183 = .ok (.iload_n 1, 1) := by decide +kernel
theorem dL_isWaySo_184 : decode cL_isWaySo 184 = .ok (.iconst 5, 1) := by decide +kernel
theorem dL_isWaySo_185 : decode cL_isWaySo 185 = .ok (.invokevirtual 14, 3) := by decide +kernel
theorem dL_isWaySo_188 : decode cL_isWaySo 188 = .ok (.if_icmp .ne 7, 3) := by decide +kernel
theorem dL_isWaySo_191 : decode cL_isWaySo 191 = .ok (.iconst 1, 1) := by decide +kernel
theorem dL_isWaySo_192 : decode cL_isWaySo 192 = .ok (.goto 4, 3) := by decide +kernel
theorem dL_isWaySo_195 : decode cL_isWaySo 195 = .ok (.iconst 0, 1) := by decide +kernel
theorem dL_isWaySo_196 : decode cL_isWaySo 196 = .ok (.ireturn, 1) := by decide +kernel
theorem dL_isAskSo_0 : decode cL_isAskSo 0 = .ok (.aload_n 0, 1) := by decide +kernel
theorem dL_isAskSo_1 : decode cL_isAskSo 1 = .ok (.iload_n 1, 1) := by decide +kernel
theorem dL_isAskSo_2 : decode cL_isAskSo 2 = .ok (.bipush 9, 2) := by decide +kernel
theorem dL_isAskSo_4 : decode cL_isAskSo 4 = .ok (.invokevirtual 14, 3) := by decide +kernel
theorem dL_isAskSo_7 : decode cL_isAskSo 7 = .ok (.istore_n 2, 1) := by decide +kernel
theorem dL_isAskSo_8 : decode cL_isAskSo 8 = .ok (.aload_n 0, 1) := by decide +kernel
theorem dL_isAskSo_9 : decode cL_isAskSo 9 = .ok (.iload_n 1, 1) := by decide +kernel
theorem dL_isAskSo_10 : decode cL_isAskSo 10 = .ok (.iconst 4, 1) := by decide +kernel
theorem dL_isAskSo_11 : decode cL_isAskSo 11 = .ok (.invokevirtual 14, 3) := by decide +kernel
theorem dL_isAskSo_14 : decode cL_isAskSo 14 = .ok (.istore_n 3, 1) := by decide +kernel
theorem dL_isAskSo_15 : decode cL_isAskSo 15 = .ok (.aload_n 0, 1) := by decide +kernel
theorem dL_isAskSo_16 : decode cL_isAskSo 16 = .ok (.iload_n 1, 1) := by decide +kernel
theorem dL_isAskSo_17 : decode cL_isAskSo 17 = .ok (.iconst 3, 1) := by decide +kernel
theorem dL_isAskSo_18 : decode cL_isAskSo 18 = .ok (.invokevirtual 14, 3) := by decide +kernel
theorem dL_isAskSo_21 : decode cL_isAskSo 21 = .ok (.istore 4, 2) := by decide +kernel
theorem dL_isAskSo_23 : decode cL_isAskSo 23 = .ok (.aload_n 0, 1) := by decide +kernel
theorem dL_isAskSo_24 : decode cL_isAskSo 24 = .ok (.iconst 1, 1) := by decide +kernel
theorem dL_isAskSo_25 : decode cL_isAskSo 25 = .ok (.invokevirtual 23, 3) := by decide +kernel
theorem dL_isAskSo_28 : decode cL_isAskSo 28 = .ok (.istore 5, 2) := by decide +kernel
theorem dL_isAskSo_30 : decode cL_isAskSo 30 = .ok (.aload_n 0, 1) := by decide +kernel
theorem dL_isAskSo_31 : decode cL_isAskSo 31 = .ok (.bipush 8, 2) := by decide +kernel
theorem dL_isAskSo_33 : decode cL_isAskSo 33 = .ok (.invokevirtual 23, 3) := by decide +kernel
theorem dL_isAskSo_36 : decode cL_isAskSo 36 = .ok (.istore 6, 2) := by decide +kernel
theorem dL_isAskSo_38 : decode cL_isAskSo 38 = .ok (.aload_n 0, 1) := by decide +kernel
theorem dL_isAskSo_39 : decode cL_isAskSo 39 = .ok (.bipush 9, 2) := by decide +kernel
theorem dL_isAskSo_41 : decode cL_isAskSo 41 = .ok (.invokevirtual 23, 3) := by decide +kernel
theorem dL_isAskSo_44 : decode cL_isAskSo 44 = .ok (.istore 7, 2) := by decide +kernel
theorem dL_isAskSo_46 : decode cL_isAskSo 46 = .ok (.aload_n 0, 1) := by decide +kernel
theorem dL_isAskSo_47 : decode cL_isAskSo 47 = .ok (.bipush 10, 2) := by decide +kernel
theorem dL_isAskSo_49 : decode cL_isAskSo 49 = .ok (.invokevirtual 23, 3) := by decide +kernel
theorem dL_isAskSo_52 : decode cL_isAskSo 52 = .ok (.istore 8, 2) := by decide +kernel
theorem dL_isAskSo_54 : decode cL_isAskSo 54 = .ok (.iload_n 3, 1) := by decide +kernel
theorem dL_isAskSo_55 : decode cL_isAskSo 55 = .ok (.aload_n 0, 1) := by decide +kernel
theorem dL_isAskSo_56 : decode cL_isAskSo 56 = .ok (.bipush 11, 2) := by decide +kernel
theorem dL_isAskSo_58 : decode cL_isAskSo 58 = .ok (.invokevirtual 23, 3) := by decide +kernel
theorem dL_isAskSo_61 : decode cL_isAskSo 61 = .ok (.if_icmp .le 7, 3) := by decide +kernel
theorem dL_isAskSo_64 : decode cL_isAskSo 64 = .ok (.iconst 1, 1) := by decide +kernel
theorem dL_isAskSo_65 : decode cL_isAskSo 65 = .ok (.goto 4, 3) := by decide +kernel
theorem dL_isAskSo_68 : decode cL_isAskSo 68 = .ok (.iconst 0, 1) := by decide +kernel
theorem dL_isAskSo_69 : decode cL_isAskSo 69 = .ok (.istore 9, 2) := by decide +kernel
theorem dL_isAskSo_71 : decode cL_isAskSo 71 = .ok (.aload_n 0, 1) := by decide +kernel
theorem dL_isAskSo_72 : decode cL_isAskSo 72 = .ok (.iload_n 1, 1) := by decide +kernel
theorem dL_isAskSo_73 : decode cL_isAskSo 73 = .ok (.bipush 6, 2) := by decide +kernel
theorem dL_isAskSo_75 : decode cL_isAskSo 75 = .ok (.invokevirtual 14, 3) := by decide +kernel
theorem dL_isAskSo_78 : decode cL_isAskSo 78 = .ok (.istore 10, 2) := by decide +kernel
theorem dL_isAskSo_80 : decode cL_isAskSo 80 = .ok (.iload 9, 2) := by decide +kernel
theorem dL_isAskSo_82 : decode cL_isAskSo 82 = .ok (.ifCond .ne 36, 3) := by decide +kernel
theorem dL_isAskSo_85 : decode cL_isAskSo 85 = .ok (.iload 8, 2) := by decide +kernel
theorem dL_isAskSo_87 : decode cL_isAskSo 87 = .ok (.iconst 1, 1) := by decide +kernel
theorem dL_isAskSo_88 : decode cL_isAskSo 88 = .ok (.if_icmp .eq 30, 3) := by decide +kernel
theorem dL_isAskSo_91 : decode cL_isAskSo 91 = .ok (.iload_n 1, 1) := by decide +kernel
theorem dL_isAskSo_92 : decode cL_isAskSo 92 = .ok (.iload 4, 2) := by decide +kernel
theorem dL_isAskSo_94 : decode cL_isAskSo 94 = .ok (.if_icmp .eq 24, 3) := by decide +kernel
theorem dL_isAskSo_97 : decode cL_isAskSo 97 = .ok (.iload 8, 2) := by decide +kernel
theorem dL_isAskSo_99 : decode cL_isAskSo 99 = .ok (.iconst 2, 1) := by decide +kernel
theorem dL_isAskSo_100 : decode cL_isAskSo 100 = .ok (.if_icmp .ne 22, 3) := by decide +kernel
theorem dL_isAskSo_103 : decode cL_isAskSo 103 = .ok (.iload 10, 2) := by decide +kernel
theorem dL_isAskSo_105 : decode cL_isAskSo 105 = .ok (.iconst 1, 1) := by decide +kernel
theorem dL_isAskSo_106 : decode cL_isAskSo 106 = .ok (.iadd, 1) := by decide +kernel
theorem dL_isAskSo_107 : decode cL_isAskSo 107 = .ok (.aload_n 0, 1) := by decide +kernel
theorem dL_isAskSo_108 : decode cL_isAskSo 108 = .ok (.iload 4, 2) := by decide +kernel
theorem dL_isAskSo_110 : decode cL_isAskSo 110 = .ok (.bipush 6, 2) := by decide +kernel
theorem dL_isAskSo_112 : decode cL_isAskSo 112 = .ok (.invokevirtual 14, 3) := by decide +kernel
theorem dL_isAskSo_115 : decode cL_isAskSo 115 = .ok (.if_icmp .le 7, 3) := by decide +kernel
theorem dL_isAskSo_118 : decode cL_isAskSo 118 = .ok (.iconst 1, 1) := by decide +kernel
theorem dL_isAskSo_119 : decode cL_isAskSo 119 = .ok (.goto 4, 3) := by decide +kernel
theorem dL_isAskSo_122 : decode cL_isAskSo 122 = .ok (.iconst 0, 1) := by decide +kernel
theorem dL_isAskSo_123 : decode cL_isAskSo 123 = .ok (.istore 11, 2) := by decide +kernel
theorem dL_isAskSo_125 : decode cL_isAskSo 125 = .ok (.aload_n 0, 1) := by decide +kernel
theorem dL_isAskSo_126 : decode cL_isAskSo 126 = .ok (.iload_n 1, 1) := by decide +kernel
theorem dL_isAskSo_127 : decode cL_isAskSo 127 = .ok (.invokevirtual 49, 3) := by decide +kernel
theorem dL_isAskSo_130 : decode cL_isAskSo 130 = .ok (.iload_n 2, 1) := by decide +kernel
theorem dL_isAskSo_131 : decode cL_isAskSo 131 = .ok (.if_icmp .ne 117, 3) := by decide +kernel
theorem dL_isAskSo_134 : decode cL_isAskSo 134 = .ok (.aload_n 0, 1) := by decide +kernel
theorem dL_isAskSo_135 : decode cL_isAskSo 135 = .ok (.iload_n 1, 1) := by decide +kernel
theorem dL_isAskSo_136 : decode cL_isAskSo 136 = .ok (.bipush 6, 2) := by decide +kernel
theorem dL_isAskSo_138 : decode cL_isAskSo 138 = .ok (.invokevirtual 14, 3) := by decide +kernel
theorem dL_isAskSo_141 : decode cL_isAskSo 141 = .ok (.iload 10, 2) := by decide +kernel
theorem dL_isAskSo_143 : decode cL_isAskSo 143 = .ok (.iconst 1, 1) := by decide +kernel
theorem dL_isAskSo_144 : decode cL_isAskSo 144 = .ok (.iadd, 1) := by decide +kernel
theorem dL_isAskSo_145 : decode cL_isAskSo 145 = .ok (.if_icmp .ne 103, 3) := by decide +kernel
theorem dL_isAskSo_148 : decode cL_isAskSo 148 = .ok (.aload_n 0, 1) := by decide +kernel
theorem dL_isAskSo_149 : decode cL_isAskSo 149 = .ok (.iconst 1, 1) := by decide +kernel
theorem dL_isAskSo_150 : decode cL_isAskSo 150 = .ok (.invokevirtual 23, 3) := by decide +kernel
theorem dL_isAskSo_153 : decode cL_isAskSo 153 = .ok (.iload 5, 2) := by decide +kernel
theorem dL_isAskSo_155 : decode cL_isAskSo 155 = .ok (.iload 9, 2) := by decide +kernel
theorem dL_isAskSo_157 : decode cL_isAskSo 157 = .ok (.ifCond .eq 7, 3) := by decide +kernel
theorem dL_isAskSo_160 : decode cL_isAskSo 160 = .ok (.iconst 1, 1) := by decide +kernel
theorem dL_isAskSo_161 : decode cL_isAskSo 161 = .ok (.goto 4, 3) := by decide +kernel
theorem dL_isAskSo_164 : decode cL_isAskSo 164 = .ok (.iconst 0, 1) := by decide +kernel
theorem dL_isAskSo_165 : decode cL_isAskSo 165 = .ok (.iadd, 1) := by decide +kernel
theorem dL_isAskSo_166 : decode cL_isAskSo 166 = .ok (.if_icmp .ne 82, 3) := by decide +kernel
theorem dL_isAskSo_169 : decode cL_isAskSo 169 = .ok (.aload_n 0, 1) := by decide +kernel
theorem dL_isAskSo_170 : decode cL_isAskSo 170 = .ok (.bipush 9, 2) := by decide +kernel
theorem dL_isAskSo_172 : decode cL_isAskSo 172 = .ok (.invokevirtual 23, 3) := by decide +kernel
theorem dL_isAskSo_175 : decode cL_isAskSo 175 = .ok (.iload 7, 2) := by decide +kernel
theorem dL_isAskSo_177 : decode cL_isAskSo 177 = .ok (.iload 9, 2) := by decide +kernel
theorem dL_isAskSo_179 : decode cL_isAskSo 179 = .ok (.ifCond .eq 7, 3) := by decide +kernel
theorem dL_isAskSo_182 : decode cL_isAskSo 182 = .ok (.iconst 1, 1) := by decide +kernel
theorem dL_isAskSo_183 : decode cL_isAskSo 183 = .ok (.goto 4, 3) := by decide +kernel
theorem dL_isAskSo_186 : decode cL_isAskSo 186 = .ok (.iconst 0, 1) := by decide +kernel
theorem dL_isAskSo_187 : decode cL_isAskSo 187 = .ok (.iadd, 1) := by decide +kernel
theorem dL_isAskSo_188 : decode cL_isAskSo 188 = .ok (.if_icmp .ne 60, 3) := by decide +kernel
theorem dL_isAskSo_191 : decode cL_isAskSo 191 = .ok (.aload_n 0, 1) := by decide +kernel
theorem dL_isAskSo_192 : decode cL_isAskSo 192 = .ok (.bipush 8, 2) := by decide +kernel
theorem dL_isAskSo_194 : decode cL_isAskSo 194 = .ok (.invokevirtual 23, 3) := by decide +kernel
theorem dL_isAskSo_197 : decode cL_isAskSo 197 = .ok (.iload 6, 2) := by decide +kernel
theorem dL_isAskSo_199 : decode cL_isAskSo 199 = .ok (.iload 11, 2) := by decide +kernel
theorem dL_isAskSo_201 : decode cL_isAskSo 201 = .ok (.ifCond .eq 18, 3) := by decide +kernel
theorem dL_isAskSo_204 : decode cL_isAskSo 204 = .ok (.iload 9, 2) := by decide +kernel
theorem dL_isAskSo_206 : decode cL_isAskSo 206 = .ok (.ifCond .ne 13, 3) := by decide +kernel
theorem dL_isAskSo_209 : decode cL_isAskSo 209 = .ok (.iload_n 1, 1) := by decide +kernel
theorem dL_isAskSo_210 : decode cL_isAskSo 210 = .ok (.iload 4, 2) := by decide +kernel
theorem dL_isAskSo_212 : decode cL_isAskSo 212 = .ok (.if_icmp .eq 7, 3) := by decide +kernel
theorem dL_isAskSo_215 : decode cL_isAskSo 215 = .ok (.iconst 1, 1) := by decide +kernel
theorem dL_isAskSo_216 : decode cL_isAskSo 216 = .ok (.goto 4, 3) := by decide +kernel
theorem dL_isAskSo_219 : decode cL_isAskSo 219 = .ok (.iconst 0, 1) := by decide +kernel
theorem dL_isAskSo_220 : decode cL_isAskSo 220 = .ok (.iadd, 1) := by decide +kernel
theorem dL_isAskSo_221 : decode cL_isAskSo 221 = .ok (.if_icmp .ne 27, 3) := by decide +kernel
theorem dL_isAskSo_224 : decode cL_isAskSo 224 = .ok (.aload_n 0, 1) := by decide +kernel
theorem dL_isAskSo_225 : decode cL_isAskSo 225 = .ok (.iload_n 1, 1) := by decide +kernel
theorem dL_isAskSo_226 : decode cL_isAskSo 226 = .ok (.iconst 3, 1) := by decide +kernel
theorem dL_isAskSo_227 : decode cL_isAskSo 227 = .ok (.invokevirtual 14, 3) := by decide +kernel
theorem dL_isAskSo_230 : decode cL_isAskSo 230 = .ok (.iload_n 1, 1) := by decide +kernel
theorem dL_isAskSo_231 : decode cL_isAskSo 231 = .ok (.if_icmp .ne 7, 3) := by decide +kernel
theorem dL_isAskSo_234 : decode cL_isAskSo 234 = .ok (.iconst 1, 1) := by decide +kernel
theorem dL_isAskSo_235 : decode cL_isAskSo 235 = .ok (.goto 4, 3) := by decide +kernel
theorem dL_isAskSo_238 : decode cL_isAskSo 238 = .ok (.iconst 0, 1) := by decide +kernel
theorem dL_isAskSo_239 : decode cL_isAskSo 239 = .ok (.iload 11, 2) := by decide +kernel
theorem dL_isAskSo_241 : decode cL_isAskSo 241 = .ok (.if_icmp .ne 7, 3) := by decide +kernel
theorem dL_isAskSo_244 : decode cL_isAskSo 244 = .ok (.iconst 1, 1) := by decide +kernel
theorem dL_isAskSo_245 : decode cL_isAskSo 245 = .ok (.goto 4, 3) := by decide +kernel
theorem dL_isAskSo_248 : decode cL_isAskSo 248 = .ok (.iconst 0, 1) := by decide +kernel
theorem dL_isAskSo_249 : decode cL_isAskSo 249 = .ok (.istore 12, 2) := by decide +kernel
theorem dL_isAskSo_251 : decode cL_isAskSo 251 = .ok (.aload_n 0, 1) := by decide +kernel
theorem dL_isAskSo_252 : decode cL_isAskSo 252 = .ok (.invokevirtual 58, 3) := by decide +kernel
theorem dL_isAskSo_255 : decode cL_isAskSo 255 = .ok (.istore 13, 2) := by decide +kernel
theorem dL_isAskSo_257 : decode cL_isAskSo 257 = .ok (.iload 12, 2) := by decide +kernel
theorem dL_isAskSo_259 : decode cL_isAskSo 259 = .ok (.ifCond .eq 34, 3) := by decide +kernel
theorem dL_isAskSo_262 : decode cL_isAskSo 262 = .ok (.iload 13, 2) := by decide +kernel
theorem dL_isAskSo_264 : decode cL_isAskSo 264 = .ok (.ifCond .lt 29, 3) := by decide +kernel
theorem dL_isAskSo_267 : decode cL_isAskSo 267 = .ok (.aload_n 0, 1) := by decide +kernel
theorem dL_isAskSo_268 : decode cL_isAskSo 268 = .ok (.iload_n 1, 1) := by decide +kernel
theorem dL_isAskSo_269 : decode cL_isAskSo 269 = .ok (.bipush 6, 2) := by decide +kernel
theorem dL_isAskSo_271 : decode cL_isAskSo 271 = .ok (.invokevirtual 14, 3) := by decide +kernel
theorem dL_isAskSo_274 : decode cL_isAskSo 274 = .ok (.iload 10, 2) := by decide +kernel
theorem dL_isAskSo_276 : decode cL_isAskSo 276 = .ok (.if_icmp .ne 17, 3) := by decide +kernel
theorem dL_isAskSo_279 : decode cL_isAskSo 279 = .ok (.aload_n 0, 1) := by decide +kernel
theorem dL_isAskSo_280 : decode cL_isAskSo 280 = .ok (.iconst 1, 1) := by decide +kernel
theorem dL_isAskSo_281 : decode cL_isAskSo 281 = .ok (.invokevirtual 23, 3) := by decide +kernel
theorem dL_isAskSo_284 : decode cL_isAskSo 284 = .ok (.iload 5, 2) := by decide +kernel
theorem dL_isAskSo_286 : decode cL_isAskSo 286 = .ok (.if_icmp .ne 7, 3) := by decide +kernel
theorem dL_isAskSo_289 : decode cL_isAskSo 289 = .ok (.iconst 1, 1) := by decide +kernel
theorem dL_isAskSo_290 : decode cL_isAskSo 290 = .ok (.goto 4, 3) := by decide +kernel
theorem dL_isAskSo_293 : decode cL_isAskSo 293 = .ok (.iconst 0, 1) := by decide +kernel
theorem dL_isAskSo_294 : decode cL_isAskSo 294 = .ok (.ireturn, 1) := by decide +kernel
theorem dL_areIfsSo_0 : decode cL_areIfsSo 0 = .ok (.aload_n 0, 1) := by decide +kernel
theorem dL_areIfsSo_1 : decode cL_areIfsSo 1 = .ok (.iload_n 1, 1) := by decide +kernel
theorem dL_areIfsSo_2 : decode cL_areIfsSo 2 = .ok (.invokevirtual 62, 3) := by decide +kernel
theorem dL_areIfsSo_5 : decode cL_areIfsSo 5 = .ok (.istore_n 3, 1) := by decide +kernel
theorem dL_areIfsSo_6 : decode cL_areIfsSo 6 = .ok (.aload_n 0, 1) := by decide +kernel
theorem dL_areIfsSo_7 : decode cL_areIfsSo 7 = .ok (.iload_n 3, 1) := by decide +kernel
theorem dL_areIfsSo_8 : decode cL_areIfsSo 8 = .ok (.invokevirtual 65, 3) := by decide +kernel
theorem dL_areIfsSo_11 : decode cL_areIfsSo 11 = .ok (.istore 4, 2) := by decide +kernel
theorem dL_areIfsSo_13 : decode cL_areIfsSo 13 = .ok (.aload_n 0, 1) := by decide +kernel
theorem dL_areIfsSo_14 : decode cL_areIfsSo 14 = .ok (.iload_n 1, 1) := by decide +kernel
theorem dL_areIfsSo_15 : decode cL_areIfsSo 15 = .ok (.invokevirtual 65, 3) := by decide +kernel
theorem dL_areIfsSo_18 : decode cL_areIfsSo 18 = .ok (.istore 5, 2) := by decide +kernel
theorem dL_areIfsSo_20 : decode cL_areIfsSo 20 = .ok (.aload_n 0, 1) := by decide +kernel
theorem dL_areIfsSo_21 : decode cL_areIfsSo 21 = .ok (.iload_n 3, 1) := by decide +kernel
theorem dL_areIfsSo_22 : decode cL_areIfsSo 22 = .ok (.iconst 3, 1) := by decide +kernel
theorem dL_areIfsSo_23 : decode cL_areIfsSo 23 = .ok (.invokevirtual 14, 3) := by decide +kernel
theorem dL_areIfsSo_26 : decode cL_areIfsSo 26 = .ok (.aload_n 0, 1) := by decide +kernel
theorem dL_areIfsSo_27 : decode cL_areIfsSo 27 = .ok (.iload_n 1, 1) := by decide +kernel
theorem dL_areIfsSo_28 : decode cL_areIfsSo 28 = .ok (.iconst 3, 1) := by decide +kernel
theorem dL_areIfsSo_29 : decode cL_areIfsSo 29 = .ok (.invokevirtual 14, 3) := by decide +kernel
theorem dL_areIfsSo_32 : decode cL_areIfsSo 32 = .ok (.if_icmp .ne 14, 3) := by decide +kernel
theorem dL_areIfsSo_35 : decode cL_areIfsSo 35 = .ok (.iload 4, 2) := by decide +kernel
theorem dL_areIfsSo_37 : decode cL_areIfsSo 37 = .ok (.iload 5, 2) := by decide +kernel
theorem dL_areIfsSo_39 : decode cL_areIfsSo 39 = .ok (.if_icmp .gt 7, 3) := by decide +kernel
theorem dL_areIfsSo_42 : decode cL_areIfsSo 42 = .ok (.iconst 1, 1) := by decide +kernel
theorem dL_areIfsSo_43 : decode cL_areIfsSo 43 = .ok (.goto 4, 3) := by decide +kernel
theorem dL_areIfsSo_46 : decode cL_areIfsSo 46 = .ok (.iconst 0, 1) := by decide +kernel
theorem dL_areIfsSo_47 : decode cL_areIfsSo 47 = .ok (.istore 6, 2) := by decide +kernel
theorem dL_areIfsSo_49 : decode cL_areIfsSo 49 = .ok (.aload_n 0, 1) := by decide +kernel
theorem dL_areIfsSo_50 : decode cL_areIfsSo 50 = .ok (.iload_n 1, 1) := by decide +kernel
theorem dL_areIfsSo_51 : decode cL_areIfsSo 51 = .ok (.iconst 3, 1) := by decide +kernel
theorem dL_areIfsSo_52 : decode cL_areIfsSo 52 = .ok (.invokevirtual 14, 3) := by decide +kernel
theorem dL_areIfsSo_55 : decode cL_areIfsSo 55 = .ok (.iload_n 1, 1) := by decide +kernel
theorem dL_areIfsSo_56 : decode cL_areIfsSo 56 = .ok (.if_icmp .ne 7, 3) := by decide +kernel
theorem dL_areIfsSo_59 : decode cL_areIfsSo 59 = .ok (.iconst 0, 1) := by decide +kernel
theorem dL_areIfsSo_60 : decode cL_areIfsSo 60 = .ok (.goto 4, 3) := by decide +kernel
theorem dL_areIfsSo_63 : decode cL_areIfsSo 63 = .ok (.iconst 1, 1) := by decide +kernel
theorem dL_areIfsSo_64 : decode cL_areIfsSo 64 = .ok (.istore 7, 2) := by decide +kernel
theorem dL_areIfsSo_66 : decode cL_areIfsSo 66 = .ok (.iload 7, 2) := by decide +kernel
theorem dL_areIfsSo_68 : decode cL_areIfsSo 68 = .ok (.ifCond .ne 7, 3) := by decide +kernel
theorem dL_areIfsSo_71 : decode cL_areIfsSo 71 = .ok (.iconst 0, 1) := by decide +kernel
theorem dL_areIfsSo_72 : decode cL_areIfsSo 72 = .ok (.goto 8, 3) := by decide +kernel
theorem dL_areIfsSo_75 : decode cL_areIfsSo 75 = .ok (.aload_n 0, 1) := by decide +kernel
theorem dL_areIfsSo_76 : decode cL_areIfsSo 76 = .ok (.iload_n 1, 1) := by decide +kernel
theorem dL_areIfsSo_77 : decode cL_areIfsSo 77 = .ok (.invokevirtual 37, 3) := by decide +kernel
theorem dL_areIfsSo_80 : decode cL_areIfsSo 80 = .ok (.istore 8, 2) := by decide +kernel
theorem dL_areIfsSo_82 : decode cL_areIfsSo 82 = .ok (.iconst 0, 1) := by decide +kernel
theorem dL_areIfsSo_83 : decode cL_areIfsSo 83 = .ok (.istore 9, 2) := by decide +kernel
theorem dL_areIfsSo_85 : decode cL_areIfsSo 85 = .ok (.iconst 0, 1) := by decide +kernel
theorem dL_areIfsSo_86 : decode cL_areIfsSo 86 = .ok (.istore 10, 2) := by decide +kernel
theorem dL_areIfsSo_88 : decode cL_areIfsSo 88 = .ok (.iload 10, 2) := by decide +kernel
theorem dL_areIfsSo_90 : decode cL_areIfsSo 90 = .ok (.bipush 24, 2) := by decide +kernel
theorem dL_areIfsSo_92 : decode cL_areIfsSo 92 = .ok (.if_icmp .ge 82, 3) := by decide +kernel
theorem dL_areIfsSo_95 : decode cL_areIfsSo 95 = .ok (.aload_n 0, 1) := by decide +kernel
theorem dL_areIfsSo_96 : decode cL_areIfsSo 96 = .ok (.iload 10, 2) := by decide +kernel
theorem dL_areIfsSo_98 : decode cL_areIfsSo 98 = .ok (.iconst 3, 1) := by decide +kernel
theorem dL_areIfsSo_99 : decode cL_areIfsSo 99 = .ok (.invokevirtual 14, 3) := by decide +kernel
theorem dL_areIfsSo_102 : decode cL_areIfsSo 102 = .ok (.iload_n 1, 1) := by decide +kernel
theorem dL_areIfsSo_103 : decode cL_areIfsSo 103 = .ok (.if_icmp .ne 65, 3) := by decide +kernel
theorem dL_areIfsSo_106 : decode cL_areIfsSo 106 = .ok (.iload 9, 2) := by decide +kernel
theorem dL_areIfsSo_108 : decode cL_areIfsSo 108 = .ok (.aload_n 0, 1) := by decide +kernel
theorem dL_areIfsSo_109 : decode cL_areIfsSo 109 = .ok (.iload 10, 2) := by decide +kernel
theorem dL_areIfsSo_111 : decode cL_areIfsSo 111 = .ok (.bipush 6, 2) := by decide +kernel
theorem dL_areIfsSo_113 : decode cL_areIfsSo 113 = .ok (.invokevirtual 14, 3) := by decide +kernel
theorem dL_areIfsSo_116 : decode cL_areIfsSo 116 = .ok (.aload_n 0, 1) := by decide +kernel
theorem dL_areIfsSo_117 : decode cL_areIfsSo 117 = .ok (.iload 10, 2) := by decide +kernel
theorem dL_areIfsSo_119 : decode cL_areIfsSo 119 = .ok (.bipush 9, 2) := by decide +kernel
theorem dL_areIfsSo_121 : decode cL_areIfsSo 121 = .ok (.invokevirtual 14, 3) := by decide +kernel
theorem dL_areIfsSo_124 : decode cL_areIfsSo 124 = .ok (.imul, 1) := by decide +kernel
theorem dL_areIfsSo_125 : decode cL_areIfsSo 125 = .ok (.iadd, 1) := by decide +kernel
theorem dL_areIfsSo_126 : decode cL_areIfsSo 126 = .ok (.istore 9, 2) := by decide +kernel
theorem dL_areIfsSo_128 : decode cL_areIfsSo 128 = .ok (.iload 6, 2) := by decide +kernel
theorem dL_areIfsSo_130 : decode cL_areIfsSo 130 = .ok (.ifCond .eq 35, 3) := by decide +kernel
theorem dL_areIfsSo_133 : decode cL_areIfsSo 133 = .ok (.aload_n 0, 1) := by decide +kernel
theorem dL_areIfsSo_134 : decode cL_areIfsSo 134 = .ok (.iload 10, 2) := by decide +kernel
theorem dL_areIfsSo_136 : decode cL_areIfsSo 136 = .ok (.invokevirtual 65, 3) := by decide +kernel
theorem dL_areIfsSo_139 : decode cL_areIfsSo 139 = .ok (.iload 4, 2) := by decide +kernel
theorem dL_areIfsSo_141 : decode cL_areIfsSo 141 = .ok (.if_icmp .lt 24, 3) := by decide +kernel
theorem dL_areIfsSo_144 : decode cL_areIfsSo 144 = .ok (.aload_n 0, 1) := by decide +kernel
theorem dL_areIfsSo_145 : decode cL_areIfsSo 145 = .ok (.iload 10, 2) := by decide +kernel
theorem dL_areIfsSo_147 : decode cL_areIfsSo 147 = .ok (.invokevirtual 65, 3) := by decide +kernel
theorem dL_areIfsSo_150 : decode cL_areIfsSo 150 = .ok (.iload 4, 2) := by decide +kernel
theorem dL_areIfsSo_152 : decode cL_areIfsSo 152 = .ok (.if_icmp .gt 9, 3) := by decide +kernel
theorem dL_areIfsSo_155 : decode cL_areIfsSo 155 = .ok (.iload 10, 2) := by decide +kernel
theorem dL_areIfsSo_157 : decode cL_areIfsSo 157 = .ok (.iload_n 3, 1) := by decide +kernel
theorem dL_areIfsSo_158 : decode cL_areIfsSo 158 = .ok (.if_icmp .lt 7, 3) := by decide +kernel
theorem dL_areIfsSo_161 : decode cL_areIfsSo 161 = .ok (.iconst 1, 1) := by decide +kernel
theorem dL_areIfsSo_162 : decode cL_areIfsSo 162 = .ok (.goto 4, 3) := by decide +kernel
theorem dL_areIfsSo_165 : decode cL_areIfsSo 165 = .ok (.iconst 0, 1) := by decide +kernel
theorem dL_areIfsSo_166 : decode cL_areIfsSo 166 = .ok (.istore 6, 2) := by decide +kernel
theorem dL_areIfsSo_168 : decode cL_areIfsSo 168 = .ok (.iinc 10 1, 3) := by decide +kernel
theorem dL_areIfsSo_171 : decode cL_areIfsSo 171 = .ok (.goto (-83), 3) := by decide +kernel
theorem dL_areIfsSo_174 : decode cL_areIfsSo 174 = .ok (.iload 6, 2) := by decide +kernel
theorem dL_areIfsSo_176 : decode cL_areIfsSo 176 = .ok (.ifCond .eq 19, 3) := by decide +kernel
theorem dL_areIfsSo_179 : decode cL_areIfsSo 179 = .ok (.iload 9, 2) := by decide +kernel
theorem dL_areIfsSo_181 : decode cL_areIfsSo 181 = .ok (.iload 5, 2) := by decide +kernel
theorem dL_areIfsSo_183 : decode cL_areIfsSo 183 = .ok (.if_icmp .ne 12, 3) := by decide +kernel
theorem dL_areIfsSo_186 : decode cL_areIfsSo 186 = .ok (.iload 8, 2) := by decide +kernel
theorem dL_areIfsSo_188 : decode cL_areIfsSo 188 = .ok (.ifCond .lt 7, 3) := by decide +kernel
theorem dL_areIfsSo_191 : decode cL_areIfsSo 191 = .ok (.iconst 1, 1) := by decide +kernel
theorem dL_areIfsSo_192 : decode cL_areIfsSo 192 = .ok (.goto 4, 3) := by decide +kernel
theorem dL_areIfsSo_195 : decode cL_areIfsSo 195 = .ok (.iconst 0, 1) := by decide +kernel
theorem dL_areIfsSo_196 : decode cL_areIfsSo 196 = .ok (.istore 6, 2) := by decide +kernel
theorem dL_areIfsSo_198 : decode cL_areIfsSo 198 = .ok (.iload_n 1, 1) := by decide +kernel
theorem dL_areIfsSo_199 : decode cL_areIfsSo 199 = .ok (.ifCond .le 82, 3) := by decide +kernel
theorem dL_areIfsSo_202 : decode cL_areIfsSo 202 = .ok (.aload_n 0, 1) := by decide +kernel
theorem dL_areIfsSo_203 : decode cL_areIfsSo 203 = .ok (.iload_n 1, 1) := by decide +kernel
theorem dL_areIfsSo_204 : decode cL_areIfsSo 204 = .ok (.invokevirtual 68, 3) := by decide +kernel
theorem dL_areIfsSo_207 : decode cL_areIfsSo 207 = .ok (.istore 10, 2) := by decide +kernel
theorem dL_areIfsSo_209 : decode cL_areIfsSo 209 = .ok (.aload_n 0, 1) := by decide +kernel
theorem dL_areIfsSo_210 : decode cL_areIfsSo 210 = .ok (.iload_n 1, 1) := by decide +kernel
theorem dL_areIfsSo_211 : decode cL_areIfsSo 211 = .ok (.iconst 1, 1) := by decide +kernel
theorem dL_areIfsSo_212 : decode cL_areIfsSo 212 = .ok (.invokevirtual 14, 3) := by decide +kernel
theorem dL_areIfsSo_215 : decode cL_areIfsSo 215 = .ok (.iconst 1, 1) := by decide +kernel
theorem dL_areIfsSo_216 : decode cL_areIfsSo 216 = .ok (.if_icmp .ne 7, 3) := by decide +kernel
theorem dL_areIfsSo_219 : decode cL_areIfsSo 219 = .ok (.iconst 1, 1) := by decide +kernel
theorem dL_areIfsSo_220 : decode cL_areIfsSo 220 = .ok (.goto 4, 3) := by decide +kernel
theorem dL_areIfsSo_223 : decode cL_areIfsSo 223 = .ok (.iconst 0, 1) := by decide +kernel
theorem dL_areIfsSo_224 : decode cL_areIfsSo 224 = .ok (.istore 11, 2) := by decide +kernel
theorem dL_areIfsSo_226 : decode cL_areIfsSo 226 = .ok (.iload 11, 2) := by decide +kernel
theorem dL_areIfsSo_228 : decode cL_areIfsSo 228 = .ok (.ifCond .eq 11, 3) := by decide +kernel
theorem dL_areIfsSo_231 : decode cL_areIfsSo 231 = .ok (.aload_n 0, 1) := by decide +kernel
theorem dL_areIfsSo_232 : decode cL_areIfsSo 232 = .ok (.iload_n 1, 1) := by decide +kernel
theorem dL_areIfsSo_233 : decode cL_areIfsSo 233 = .ok (.invokevirtual 40, 3) := by decide +kernel
theorem dL_areIfsSo_236 : decode cL_areIfsSo 236 = .ok (.goto 8, 3) := by decide +kernel
theorem dL_areIfsSo_239 : decode cL_areIfsSo 239 = .ok (.aload_n 0, 1) := by decide +kernel
theorem dL_areIfsSo_240 : decode cL_areIfsSo 240 = .ok (.iload_n 1, 1) := by decide +kernel
theorem dL_areIfsSo_241 : decode cL_areIfsSo 241 = .ok (.invokevirtual 43, 3) := by decide +kernel
theorem dL_areIfsSo_244 : decode cL_areIfsSo 244 = .ok (.istore 12, 2) := by decide +kernel
theorem dL_areIfsSo_246 : decode cL_areIfsSo 246 = .ok (.iload 6, 2) := by decide +kernel
theorem dL_areIfsSo_248 : decode cL_areIfsSo 248 = .ok (.ifCond .eq 27, 3) := by decide +kernel
theorem dL_areIfsSo_251 : decode cL_areIfsSo 251 = .ok (.aload_n 0, 1) := by decide +kernel
theorem dL_areIfsSo_252 : decode cL_areIfsSo 252 = .ok (.iconst 2, 1) := by decide +kernel
theorem dL_areIfsSo_253 : decode cL_areIfsSo 253 = .ok (.invokevirtual 23, 3) := by decide +kernel
theorem dL_areIfsSo_256 : decode cL_areIfsSo 256 = .ok (.iload 10, 2) := by decide +kernel
theorem dL_areIfsSo_258 : decode cL_areIfsSo 258 = .ok (.if_icmp .ne 17, 3) := by decide +kernel
theorem dL_areIfsSo_261 : decode cL_areIfsSo 261 = .ok (.iload 12, 2) := by decide +kernel
theorem dL_areIfsSo_263 : decode cL_areIfsSo 263 = .ok (.aload_n 0, 1) := by decide +kernel
theorem dL_areIfsSo_264 : decode cL_areIfsSo 264 = .ok (.iconst 1, 1) := by decide +kernel
theorem dL_areIfsSo_265 : decode cL_areIfsSo 265 = .ok (.invokevirtual 23, 3) := by decide +kernel
theorem dL_areIfsSo_268 : decode cL_areIfsSo 268 = .ok (.if_icmp .ne 7, 3) := by decide +kernel
theorem dL_areIfsSo_271 : decode cL_areIfsSo 271 = .ok (.iconst 1, 1) := by decide +kernel
theorem dL_areIfsSo_272 : decode cL_areIfsSo 272 = .ok (.goto 4, 3) := by decide +kernel
theorem dL_areIfsSo_275 : decode cL_areIfsSo 275 = .ok (.iconst 0, 1) := by decide +kernel
theorem dL_areIfsSo_276 : decode cL_areIfsSo 276 = .ok (.istore 6, 2) := by decide +kernel
theorem dL_areIfsSo_278 : decode cL_areIfsSo 278 = .ok (.iinc 7 1, 3) := by decide +kernel
theorem dL_areIfsSo_281 : decode cL_areIfsSo 281 = .ok (.iconst 0, 1) := by decide +kernel
theorem dL_areIfsSo_282 : decode cL_areIfsSo 282 = .ok (.istore 10, 2) := by decide +kernel
theorem dL_areIfsSo_284 : decode cL_areIfsSo 284 = .ok (.iconst 0, 1) := by decide +kernel
theorem dL_areIfsSo_285 : decode cL_areIfsSo 285 = .ok (.istore 11, 2) := by decide +kernel
theorem dL_areIfsSo_287 : decode cL_areIfsSo 287 = .ok (.iload 11, 2) := by decide +kernel
theorem dL_areIfsSo_289 : decode cL_areIfsSo 289 = .ok (.iload 7, 2) := by decide +kernel
theorem dL_areIfsSo_291 : decode cL_areIfsSo 291 = .ok (.if_icmp .ge 15, 3) := by decide +kernel
theorem dL_areIfsSo_294 : decode cL_areIfsSo 294 = .ok (.aload_n 0, 1) := by decide +kernel
theorem dL_areIfsSo_295 : decode cL_areIfsSo 295 = .ok (.invokevirtual 58, 3) := by decide +kernel
theorem dL_areIfsSo_298 : decode cL_areIfsSo 298 = .ok (.istore 10, 2) := by decide +kernel
theorem dL_areIfsSo_300 : decode cL_areIfsSo 300 = .ok (.iinc 11 1, 3) := by decide +kernel
theorem dL_areIfsSo_303 : decode cL_areIfsSo 303 = .ok (.goto (-16), 3) := by decide +kernel
theorem dL_areIfsSo_306 : decode cL_areIfsSo 306 = .ok (.aload_n 0, 1) := by decide +kernel
theorem dL_areIfsSo_307 : decode cL_areIfsSo 307 = .ok (.iload_n 1, 1) := by decide +kernel
theorem dL_areIfsSo_308 : decode cL_areIfsSo 308 = .ok (.iload_n 2, 1) := by decide +kernel
theorem dL_areIfsSo_309 : decode cL_areIfsSo 309 = .ok (.invokevirtual 71, 3) := by decide +kernel
theorem dL_areIfsSo_312 : decode cL_areIfsSo 312 = .ok (.istore 11, 2) := by decide +kernel
theorem dL_areIfsSo_314 : decode cL_areIfsSo 314 = .ok (.iload_n 2, 1) := by decide +kernel
theorem dL_areIfsSo_315 : decode cL_areIfsSo 315 = .ok (.istore 12, 2) := by decide +kernel
theorem dL_areIfsSo_317 : decode cL_areIfsSo 317 = .ok (.iconst 0, 1) := by decide +kernel
theorem dL_areIfsSo_318 : decode cL_areIfsSo 318 = .ok (.istore 13, 2) := by decide +kernel
theorem dL_areIfsSo_320 : decode cL_areIfsSo 320 = .ok (.iload 13, 2) := by decide +kernel
theorem dL_areIfsSo_322 : decode cL_areIfsSo 322 = .ok (.bipush 24, 2) := by decide +kernel
theorem dL_areIfsSo_324 : decode cL_areIfsSo 324 = .ok (.if_icmp .ge 30, 3) := by decide +kernel
theorem dL_areIfsSo_327 : decode cL_areIfsSo 327 = .ok (.iload 12, 2) := by decide +kernel
theorem dL_areIfsSo_329 : decode cL_areIfsSo 329 = .ok (.iload 11, 2) := by decide +kernel
theorem dL_areIfsSo_331 : decode cL_areIfsSo 331 = .ok (.if_icmp .eq 23, 3) := by decide +kernel
theorem dL_areIfsSo_334 : decode cL_areIfsSo 334 = .ok (.iload 12, 2) := by decide +kernel
theorem dL_areIfsSo_336 : decode cL_areIfsSo 336 = .ok (.ifCond .le 18, 3) := by decide +kernel
theorem dL_areIfsSo_339 : decode cL_areIfsSo 339 = .ok (.aload_n 0, 1) := by decide +kernel
theorem dL_areIfsSo_340 : decode cL_areIfsSo 340 = .ok (.iload 12, 2) := by decide +kernel
theorem dL_areIfsSo_342 : decode cL_areIfsSo 342 = .ok (.iconst 0, 1) := by decide +kernel
theorem dL_areIfsSo_343 : decode cL_areIfsSo 343 = .ok (.invokevirtual 14, 3) := by decide +kernel
theorem dL_areIfsSo_346 : decode cL_areIfsSo 346 = .ok (.istore 12, 2) := by decide +kernel
theorem dL_areIfsSo_348 : decode cL_areIfsSo 348 = .ok (.iinc 13 1, 3) := by decide +kernel
theorem dL_areIfsSo_351 : decode cL_areIfsSo 351 = .ok (.goto (-31), 3) := by decide +kernel
theorem dL_areIfsSo_354 : decode cL_areIfsSo 354 = .ok (.iload 6, 2) := by decide +kernel
theorem dL_areIfsSo_356 : decode cL_areIfsSo 356 = .ok (.ifCond .eq 55, 3) := by decide +kernel
theorem dL_areIfsSo_359 : decode cL_areIfsSo 359 = .ok (.iload 10, 2) := by decide +kernel
theorem dL_areIfsSo_361 : decode cL_areIfsSo 361 = .ok (.ifCond .lt 50, 3) := by decide +kernel
theorem dL_areIfsSo_364 : decode cL_areIfsSo 364 = .ok (.iload 12, 2) := by decide +kernel
theorem dL_areIfsSo_366 : decode cL_areIfsSo 366 = .ok (.iload 11, 2) := by decide +kernel
theorem dL_areIfsSo_368 : decode cL_areIfsSo 368 = .ok (.if_icmp .ne 43, 3) := by decide +kernel
theorem dL_areIfsSo_371 : decode cL_areIfsSo 371 = .ok (.aload_n 0, 1) := by decide +kernel
theorem dL_areIfsSo_372 : decode cL_areIfsSo 372 = .ok (.iload_n 2, 1) := by decide +kernel
theorem dL_areIfsSo_373 : decode cL_areIfsSo 373 = .ok (.iload_n 1, 1) := by decide +kernel
theorem dL_areIfsSo_374 : decode cL_areIfsSo 374 = .ok (.invokevirtual 71, 3) := by decide +kernel
theorem dL_areIfsSo_377 : decode cL_areIfsSo 377 = .ok (.iload 11, 2) := by decide +kernel
theorem dL_areIfsSo_379 : decode cL_areIfsSo 379 = .ok (.if_icmp .ne 32, 3) := by decide +kernel
theorem dL_areIfsSo_382 : decode cL_areIfsSo 382 = .ok (.aload_n 0, 1) := by decide +kernel
theorem dL_areIfsSo_383 : decode cL_areIfsSo 383 = .ok (.iload_n 1, 1) := by decide +kernel
theorem dL_areIfsSo_384 : decode cL_areIfsSo 384 = .ok (.iload_n 2, 1) := by decide +kernel
theorem dL_areIfsSo_385 : decode cL_areIfsSo 385 = .ok (.invokevirtual 52, 3) := by decide +kernel
theorem dL_areIfsSo_388 : decode cL_areIfsSo 388 = .ok (.aload_n 0, 1) := by decide +kernel
theorem dL_areIfsSo_389 : decode cL_areIfsSo 389 = .ok (.iload_n 2, 1) := by decide +kernel
theorem dL_areIfsSo_390 : decode cL_areIfsSo 390 = .ok (.iload_n 1, 1) := by decide +kernel
theorem dL_areIfsSo_391 : decode cL_areIfsSo 391 = .ok (.invokevirtual 52, 3) := by decide +kernel
theorem dL_areIfsSo_394 : decode cL_areIfsSo 394 = .ok (.if_icmp .ne 17, 3) := by decide +kernel
theorem dL_areIfsSo_397 : decode cL_areIfsSo 397 = .ok (.aload_n 0, 1) := by decide +kernel
theorem dL_areIfsSo_398 : decode cL_areIfsSo 398 = .ok (.iload_n 1, 1) := by decide +kernel
theorem dL_areIfsSo_399 : decode cL_areIfsSo 399 = .ok (.invokevirtual 65, 3) := by decide +kernel
theorem dL_areIfsSo_402 : decode cL_areIfsSo 402 = .ok (.iload 5, 2) := by decide +kernel
theorem dL_areIfsSo_404 : decode cL_areIfsSo 404 = .ok (.if_icmp .ne 7, 3) := by decide +kernel
theorem dL_areIfsSo_407 : decode cL_areIfsSo 407 = .ok (.iconst 1, 1) := by decide +kernel
theorem dL_areIfsSo_408 : decode cL_areIfsSo 408 = .ok (.goto 4, 3) := by decide +kernel
theorem dL_areIfsSo_411 : decode cL_areIfsSo 411 = .ok (.iconst 0, 1) := by decide +kernel
theorem dL_areIfsSo_412 : decode cL_areIfsSo 412 = .ok (.ireturn, 1) := by decide +kernel
theorem dL_law_0 : decode cL_law 0 = .ok (.new 15, 3) := by decide +kernel
theorem dL_law_3 : decode cL_law 3 = .ok (.dup, 1) := by decide +kernel
theorem dL_law_4 : decode cL_law 4 = .ok (.invokespecial 74, 3) := by decide +kernel
theorem dL_law_7 : decode cL_law 7 = .ok (.astore_n 1, 1) := by decide +kernel
theorem dL_law_8 : decode cL_law 8 = .ok (.iconst 0, 1) := by decide +kernel
theorem dL_law_9 : decode cL_law 9 = .ok (.istore_n 2, 1) := by decide +kernel
theorem dL_law_10 : decode cL_law 10 = .ok (.iload_n 2, 1) := by decide +kernel
theorem dL_law_11 : decode cL_law 11 = .ok (.bipush 54, 2) := by decide +kernel
theorem dL_law_13 : decode cL_law 13 = .ok (.if_icmp .ge 100, 3) := by decide +kernel
theorem dL_law_16 : decode cL_law 16 = .ok (.aload_n 0, 1) := by decide +kernel
theorem dL_law_17 : decode cL_law 17 = .ok (.iload_n 2, 1) := by decide +kernel
theorem dL_law_18 : decode cL_law 18 = .ok (.invokestatic 75, 3) := by decide +kernel
theorem dL_law_21 : decode cL_law 21 = .ok (.istore_n 3, 1) := by decide +kernel
theorem dL_law_22 : decode cL_law 22 = .ok (.aload_n 1, 1) := by decide +kernel
theorem dL_law_23 : decode cL_law 23 = .ok (.iload_n 3, 1) := by decide +kernel
theorem dL_law_24 : decode cL_law 24 = .ok (.invokestatic 79, 3) := by decide +kernel
theorem dL_law_27 : decode cL_law 27 = .ok (.istore 4, 2) := by decide +kernel
theorem dL_law_29 : decode cL_law 29 = .ok (.aload_n 1, 1) := by decide +kernel
theorem dL_law_30 : decode cL_law 30 = .ok (.iload_n 3, 1) := by decide +kernel
theorem dL_law_31 : decode cL_law 31 = .ok (.iconst 5, 1) := by decide +kernel
theorem dL_law_32 : decode cL_law 32 = .ok (.ishr, 1) := by decide +kernel
theorem dL_law_33 : decode cL_law 33 = .ok (.invokestatic 19, 3) := by decide +kernel
theorem dL_law_36 : decode cL_law 36 = .ok (.istore 5, 2) := by decide +kernel
theorem dL_law_38 : decode cL_law 38 = .ok (.iload 4, 2) := by decide +kernel
theorem dL_law_40 : decode cL_law 40 = .ok (.ifCond .lt 65, 3) := by decide +kernel
theorem dL_law_43 : decode cL_law 43 = .ok (.iload_n 2, 1) := by decide +kernel
theorem dL_law_44 : decode cL_law 44 = .ok (.iconst 2, 1) := by decide +kernel
theorem dL_law_45 : decode cL_law 45 = .ok (.irem, 1) := by decide +kernel
theorem dL_law_46 : decode cL_law 46 = .ok (.ifCond .ne 10, 3) := by decide +kernel
theorem dL_law_49 : decode cL_law 49 = .ok (.aload_n 1, 1) := by decide +kernel
theorem dL_law_50 : decode cL_law 50 = .ok (.invokestatic 82, 3) := by decide +kernel
theorem dL_law_53 : decode cL_law 53 = .ok (.ifCond .eq 52, 3) := by decide +kernel
theorem dL_law_56 : decode cL_law 56 = .ok (.aload_n 1, 1) := by decide +kernel
theorem dL_law_57 : decode cL_law 57 = .ok (.iload 5, 2) := by decide +kernel
theorem dL_law_59 : decode cL_law 59 = .ok (.invokestatic 86, 3) := by decide +kernel
theorem dL_law_62 : decode cL_law 62 = .ok (.ifCond .eq 43, 3) := by decide +kernel
theorem dL_law_65 : decode cL_law 65 = .ok (.iload_n 2, 1) := by decide +kernel
theorem dL_law_66 : decode cL_law 66 = .ok (.iconst 3, 1) := by decide +kernel
theorem dL_law_67 : decode cL_law 67 = .ok (.irem, 1) := by decide +kernel
theorem dL_law_68 : decode cL_law 68 = .ok (.iconst 1, 1) := by decide +kernel
theorem dL_law_69 : decode cL_law 69 = .ok (.if_icmp .ne 12, 3) := by decide +kernel
theorem dL_law_72 : decode cL_law 72 = .ok (.aload_n 1, 1) := by decide +kernel
theorem dL_law_73 : decode cL_law 73 = .ok (.iload 5, 2) := by decide +kernel
theorem dL_law_75 : decode cL_law 75 = .ok (.invokestatic 90, 3) := by decide +kernel
theorem dL_law_78 : decode cL_law 78 = .ok (.ifCond .eq 27, 3) := by decide +kernel
theorem dL_law_81 : decode cL_law 81 = .ok (.iload_n 2, 1) := by decide +kernel
theorem dL_law_82 : decode cL_law 82 = .ok (.iconst 4, 1) := by decide +kernel
theorem dL_law_83 : decode cL_law 83 = .ok (.irem, 1) := by decide +kernel
theorem dL_law_84 : decode cL_law 84 = .ok (.iconst 3, 1) := by decide +kernel
theorem dL_law_85 : decode cL_law 85 = .ok (.if_icmp .ne 22, 3) := by decide +kernel
theorem dL_law_88 : decode cL_law 88 = .ok (.aload_n 1, 1) := by decide +kernel
theorem dL_law_89 : decode cL_law 89 = .ok (.iload 5, 2) := by decide +kernel
theorem dL_law_91 : decode cL_law 91 = .ok (.aload_n 1, 1) := by decide +kernel
theorem dL_law_92 : decode cL_law 92 = .ok (.iload_n 3, 1) := by decide +kernel
theorem dL_law_93 : decode cL_law 93 = .ok (.bipush 9, 2) := by decide +kernel
theorem dL_law_95 : decode cL_law 95 = .ok (.ishr, 1) := by decide +kernel
theorem dL_law_96 : decode cL_law 96 = .ok (.invokestatic 19, 3) := by decide +kernel
theorem dL_law_99 : decode cL_law 99 = .ok (.invokestatic 93, 3) := by decide +kernel
theorem dL_law_102 : decode cL_law 102 = .ok (.ifCond .ne 5, 3) := by decide +kernel
theorem dL_law_105 : decode cL_law 105 = .ok (.iconst 0, 1) := by decide +kernel
theorem dL_law_106 : decode cL_law 106 = .ok (.ireturn, 1) := by decide +kernel
theorem dL_law_107 : decode cL_law 107 = .ok (.iinc 2 1, 3) := by decide +kernel
theorem dL_law_110 : decode cL_law 110 = .ok (.goto (-100), 3) := by decide +kernel
theorem dL_law_113 : decode cL_law 113 = .ok (.iconst 1, 1) := by decide +kernel
theorem dL_law_114 : decode cL_law 114 = .ok (.ireturn, 1) := by decide +kernel
abbrev vwCl : List vw_C := [(RX0, TX0, 2), (RX1, TX1, 8), (RX2, TX2, 4), (RX5, TX5, 13), (RX6, TX6, 10)]
