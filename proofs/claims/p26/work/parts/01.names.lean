-- ===== PART A: goes FIRST, ahead of the names: the tables' words, and 'selects' of the private methods out of them =====
/-- a private method of a class that the tables say can be made, by its rows of tables_1 -/
def lw_okq (q : MethodName × Nat) : Prop := (q.1.cls ≠ "java/lang/invoke/MethodHandle" ∧ q.1.cls ≠ "java/lang/invoke/VarHandle") ∧ Cond.instantiable q.1.cls q.2 ∈ tables_1 ∧ Cond.privateMethod q.1 ∈ tables_1 ∧ Cond.instanceMethod q.1 ∈ tables_1
theorem lw_p0 : lw_okq (⟨"ChipPilers$History", "dropOldest", "()V"⟩, 2) := ⟨⟨by decide +kernel, by decide +kernel⟩, List.mem_of_getElem? (i := 191) (by decide +kernel), List.mem_of_getElem? (i := 283) (by decide +kernel), List.mem_of_getElem? (i := 284) (by decide +kernel)⟩
theorem lw_p1 : lw_okq (⟨"ChipPilers$History", "stateAt", "(I)LChipPilers$State;"⟩, 2) := ⟨⟨by decide +kernel, by decide +kernel⟩, List.mem_of_getElem? (i := 191) (by decide +kernel), List.mem_of_getElem? (i := 287) (by decide +kernel), List.mem_of_getElem? (i := 288) (by decide +kernel)⟩
theorem lw_p2 : lw_okq (⟨"ChipPilers$World", "hasWall", "(LChipPilers$Walker;I)Z"⟩, 2) := ⟨⟨by decide +kernel, by decide +kernel⟩, List.mem_of_getElem? (i := 22) (by decide +kernel), List.mem_of_getElem? (i := 424) (by decide +kernel), List.mem_of_getElem? (i := 425) (by decide +kernel)⟩
theorem lw_p3 : lw_okq (⟨"ChipPilers$World", "stepAhead", "(LChipPilers$Walker;I)V"⟩, 2) := ⟨⟨by decide +kernel, by decide +kernel⟩, List.mem_of_getElem? (i := 22) (by decide +kernel), List.mem_of_getElem? (i := 435) (by decide +kernel), List.mem_of_getElem? (i := 436) (by decide +kernel)⟩
theorem lw_p4 : lw_okq (⟨"ChipPilers$Heaps", "findHeap", "([III)V"⟩, 7) := ⟨⟨by decide +kernel, by decide +kernel⟩, List.mem_of_getElem? (i := 151) (by decide +kernel), List.mem_of_getElem? (i := 444) (by decide +kernel), List.mem_of_getElem? (i := 445) (by decide +kernel)⟩
theorem lw_p5 : lw_okq (⟨"ChipPilers$Heaps", "addCell", "([III)V"⟩, 7) := ⟨⟨by decide +kernel, by decide +kernel⟩, List.mem_of_getElem? (i := 151) (by decide +kernel), List.mem_of_getElem? (i := 448) (by decide +kernel), List.mem_of_getElem? (i := 449) (by decide +kernel)⟩
theorem lw_p6 : lw_okq (⟨"ChipPilers$World", "pickedBySort", "(LChipPilers$Walker;)I"⟩, 2) := ⟨⟨by decide +kernel, by decide +kernel⟩, List.mem_of_getElem? (i := 22) (by decide +kernel), List.mem_of_getElem? (i := 455) (by decide +kernel), List.mem_of_getElem? (i := 456) (by decide +kernel)⟩
theorem lw_p7 : lw_okq (⟨"ChipPilers$Heaps", "comesAhead", "(II)Z"⟩, 7) := ⟨⟨by decide +kernel, by decide +kernel⟩, List.mem_of_getElem? (i := 151) (by decide +kernel), List.mem_of_getElem? (i := 470) (by decide +kernel), List.mem_of_getElem? (i := 471) (by decide +kernel)⟩
theorem lw_p8 : lw_okq (⟨"ChipPilers$Plan", "takes", "(CI)Z"⟩, 6) := ⟨⟨by decide +kernel, by decide +kernel⟩, List.mem_of_getElem? (i := 208) (by decide +kernel), List.mem_of_getElem? (i := 578) (by decide +kernel), List.mem_of_getElem? (i := 579) (by decide +kernel)⟩
theorem lw_p9 : lw_okq (⟨"ChipPilers$Plan", "takesWalker", "(II)Z"⟩, 6) := ⟨⟨by decide +kernel, by decide +kernel⟩, List.mem_of_getElem? (i := 208) (by decide +kernel), List.mem_of_getElem? (i := 582) (by decide +kernel), List.mem_of_getElem? (i := 583) (by decide +kernel)⟩
theorem lw_p10 : lw_okq (⟨"ChipPilers$Plan", "takesDigit", "(I)Z"⟩, 6) := ⟨⟨by decide +kernel, by decide +kernel⟩, List.mem_of_getElem? (i := 208) (by decide +kernel), List.mem_of_getElem? (i := 586) (by decide +kernel), List.mem_of_getElem? (i := 587) (by decide +kernel)⟩
theorem lw_p11 : lw_okq (⟨"ChipPilers$Plan", "takesLetter", "(CI)Z"⟩, 6) := ⟨⟨by decide +kernel, by decide +kernel⟩, List.mem_of_getElem? (i := 208) (by decide +kernel), List.mem_of_getElem? (i := 591) (by decide +kernel), List.mem_of_getElem? (i := 592) (by decide +kernel)⟩
theorem lw_p12 : lw_okq (⟨"ChipPilers", "slotAt", "(I)LChipPilers$Slot;"⟩, 5) := ⟨⟨by decide +kernel, by decide +kernel⟩, List.mem_of_getElem? (i := 14) (by decide +kernel), List.mem_of_getElem? (i := 650) (by decide +kernel), List.mem_of_getElem? (i := 651) (by decide +kernel)⟩
def lw_privs_1 : List (MethodName × Nat) := [(⟨"ChipPilers$History", "dropOldest", "()V"⟩, 2), (⟨"ChipPilers$History", "stateAt", "(I)LChipPilers$State;"⟩, 2), (⟨"ChipPilers$World", "hasWall", "(LChipPilers$Walker;I)Z"⟩, 2), (⟨"ChipPilers$World", "stepAhead", "(LChipPilers$Walker;I)V"⟩, 2), (⟨"ChipPilers$Heaps", "findHeap", "([III)V"⟩, 7), (⟨"ChipPilers$Heaps", "addCell", "([III)V"⟩, 7), (⟨"ChipPilers$World", "pickedBySort", "(LChipPilers$Walker;)I"⟩, 2), (⟨"ChipPilers$Heaps", "comesAhead", "(II)Z"⟩, 7), (⟨"ChipPilers$Plan", "takes", "(CI)Z"⟩, 6), (⟨"ChipPilers$Plan", "takesWalker", "(II)Z"⟩, 6), (⟨"ChipPilers$Plan", "takesDigit", "(I)Z"⟩, 6), (⟨"ChipPilers$Plan", "takesLetter", "(CI)Z"⟩, 6), (⟨"ChipPilers", "slotAt", "(I)LChipPilers$Slot;"⟩, 5)]
theorem lw_r1 : ∀ q ∈ lw_privs_1, lw_okq q := List.forall_mem_cons.mpr ⟨lw_p0, List.forall_mem_cons.mpr ⟨lw_p1, List.forall_mem_cons.mpr ⟨lw_p2, List.forall_mem_cons.mpr ⟨lw_p3, List.forall_mem_cons.mpr ⟨lw_p4, List.forall_mem_cons.mpr ⟨lw_p5, List.forall_mem_cons.mpr ⟨lw_p6, List.forall_mem_cons.mpr ⟨lw_p7, List.forall_mem_cons.mpr ⟨lw_p8, List.forall_mem_cons.mpr ⟨lw_p9, List.forall_mem_cons.mpr ⟨lw_p10, List.forall_mem_cons.mpr ⟨lw_p11, List.forall_mem_cons.mpr ⟨lw_p12, fun _ h => absurd h List.not_mem_nil⟩⟩⟩⟩⟩⟩⟩⟩⟩⟩⟩⟩⟩
def lw_privs : List (MethodName × Nat) := lw_privs_1
def lw_tbl : List Cond := k2_sels lw_privs ++ tables_1
theorem lw_privs_ok : ∀ q ∈ lw_privs, lw_okq q := lw_r1

def RX0 : String := "ChipPilers$Heaps"
def TX0 : u_T := fun k => match k with
  | 0 => ("ChipPilers$Heaps", "sizes", "[I", true)
  | 1 => ("ChipPilers$Heaps", "cellCounts", "[I", true)
  | 2 => ("ChipPilers$Heaps", "firstCells", "[I", true)
  | 3 => ("ChipPilers$Heaps", "heapOfCell", "[I", true)
  | 4 => ("ChipPilers$Heaps", "found", "[I", true)
  | 5 => ("ChipPilers$Heaps", "number", "I", false)
  | _ => ("ChipPilers$Heaps", "stale", "Z", false)
def tyX0 : Nat → FieldType := fun k => match k with
  | 0 => .array .int
  | 1 => .array .int
  | 2 => .array .int
  | 3 => .array .int
  | 4 => .array .int
  | 5 => .int
  | _ => .boolean
abbrev wsX00 : List Cond := u_ws RX0 TX0 7
theorem nmX0 : ∀ a, a < 7 → ∀ b, b < 7 → a ≠ b → (TX0 a).2.1 ≠ (TX0 b).2.1 := by decide +kernel
theorem tyX0_ok : ∀ k, k < 7 → parseFieldDescriptor (TX0 k).2.2.1 = some (tyX0 k) := by decide +kernel
abbrev cX0_init : ByteArray := prog_2_method_1_code
def yX0_init : MethodName := ⟨RX0, "<init>", "()V"⟩
abbrev cX0_forget : ByteArray := prog_2_method_2_code
def yX0_forget : MethodName := ⟨RX0, "forget", "()V"⟩
abbrev cX0_follow : ByteArray := prog_2_method_3_code
def yX0_follow : MethodName := ⟨RX0, "follow", "(III)V"⟩
abbrev cX0_numberIn : ByteArray := prog_2_method_4_code
def yX0_numberIn : MethodName := ⟨RX0, "numberIn", "([I)I"⟩
abbrev cX0_findHeap : ByteArray := prog_2_method_5_code
def yX0_findHeap : MethodName := ⟨RX0, "findHeap", "([III)V"⟩
abbrev cX0_addCell : ByteArray := prog_2_method_6_code
def yX0_addCell : MethodName := ⟨RX0, "addCell", "([III)V"⟩
abbrev cX0_neighbour : ByteArray := prog_2_method_7_code
def yX0_neighbour : MethodName := ⟨RX0, "neighbour", "(II)I"⟩
abbrev cX0_heapWith : ByteArray := prog_2_method_8_code
def yX0_heapWith : MethodName := ⟨RX0, "heapWith", "(I)I"⟩
abbrev cX0_placeOf : ByteArray := prog_2_method_9_code
def yX0_placeOf : MethodName := ⟨RX0, "placeOf", "(I)I"⟩
abbrev cX0_heapAt : ByteArray := prog_2_method_10_code
def yX0_heapAt : MethodName := ⟨RX0, "heapAt", "(I)I"⟩
abbrev cX0_isGreatest : ByteArray := prog_2_method_11_code
def yX0_isGreatest : MethodName := ⟨RX0, "isGreatest", "(I)Z"⟩
abbrev cX0_mostChips : ByteArray := prog_2_method_12_code
def yX0_mostChips : MethodName := ⟨RX0, "mostChips", "([II)I"⟩
abbrev cX0_comesAhead : ByteArray := prog_2_method_13_code
def yX0_comesAhead : MethodName := ⟨RX0, "comesAhead", "(II)Z"⟩
def RX1 : String := "ChipPilers$History"
def TX1 : u_T := fun k => match k with
  | 0 => ("ChipPilers$History", "states", "[LChipPilers$State;", true)
  | _ => ("ChipPilers$History", "size", "I", false)
def tyX1 : Nat → FieldType := fun k => match k with
  | 0 => .array (.object "ChipPilers$State")
  | _ => .int
abbrev wsX10 : List Cond := u_ws RX1 TX1 2
theorem nmX1 : ∀ a, a < 2 → ∀ b, b < 2 → a ≠ b → (TX1 a).2.1 ≠ (TX1 b).2.1 := by decide +kernel
theorem tyX1_ok : ∀ k, k < 2 → parseFieldDescriptor (TX1 k).2.2.1 = some (tyX1 k) := by decide +kernel
abbrev cX1_init : ByteArray := prog_3_method_1_code
def yX1_init : MethodName := ⟨RX1, "<init>", "()V"⟩
abbrev cX1_record : ByteArray := prog_3_method_2_code
def yX1_record : MethodName := ⟨RX1, "record", "(LChipPilers$State;)V"⟩
abbrev cX1_takeLatest : ByteArray := prog_3_method_3_code
def yX1_takeLatest : MethodName := ⟨RX1, "takeLatest", "()LChipPilers$State;"⟩
abbrev cX1_dropOldest : ByteArray := prog_3_method_4_code
def yX1_dropOldest : MethodName := ⟨RX1, "dropOldest", "()V"⟩
abbrev cX1_stateAt : ByteArray := prog_3_method_5_code
def yX1_stateAt : MethodName := ⟨RX1, "stateAt", "(I)LChipPilers$State;"⟩
def RX2 : String := "ChipPilers$Plan"
def TX2 : u_T := fun k => match k with
  | 0 => ("ChipPilers$Plan", "text", "[C", true)
  | 1 => ("ChipPilers$Plan", "length", "I", false)
  | 2 => ("ChipPilers$Plan", "letters", "[C", true)
  | 3 => ("ChipPilers$Plan", "numbers", "[I", true)
  | 4 => ("ChipPilers$Plan", "orderCount", "I", false)
  | _ => ("ChipPilers$Plan", "walkerDue", "Z", false)
def tyX2 : Nat → FieldType := fun k => match k with
  | 0 => .array .char
  | 1 => .int
  | 2 => .array .char
  | 3 => .array .int
  | 4 => .int
  | _ => .boolean
abbrev wsX20 : List Cond := u_ws RX2 TX2 6
theorem nmX2 : ∀ a, a < 6 → ∀ b, b < 6 → a ≠ b → (TX2 a).2.1 ≠ (TX2 b).2.1 := by decide +kernel
theorem tyX2_ok : ∀ k, k < 6 → parseFieldDescriptor (TX2 k).2.2.1 = some (tyX2 k) := by decide +kernel
abbrev cX2_init : ByteArray := prog_4_method_1_code
def yX2_init : MethodName := ⟨RX2, "<init>", "()V"⟩
abbrev cX2_append : ByteArray := prog_4_method_2_code
def yX2_append : MethodName := ⟨RX2, "append", "(C)Z"⟩
abbrev cX2_readOrders : ByteArray := prog_4_method_3_code
def yX2_readOrders : MethodName := ⟨RX2, "readOrders", "(I)I"⟩
abbrev cX2_takes : ByteArray := prog_4_method_4_code
def yX2_takes : MethodName := ⟨RX2, "takes", "(CI)Z"⟩
abbrev cX2_takesWalker : ByteArray := prog_4_method_5_code
def yX2_takesWalker : MethodName := ⟨RX2, "takesWalker", "(II)Z"⟩
abbrev cX2_takesDigit : ByteArray := prog_4_method_6_code
def yX2_takesDigit : MethodName := ⟨RX2, "takesDigit", "(I)Z"⟩
abbrev cX2_takesLetter : ByteArray := prog_4_method_7_code
def yX2_takesLetter : MethodName := ⟨RX2, "takesLetter", "(CI)Z"⟩
abbrev cX2_isOrder : ByteArray := prog_4_method_8_code
def yX2_isOrder : MethodName := ⟨RX2, "isOrder", "(CI)Z"⟩
abbrev cX2_letterOf : ByteArray := prog_4_method_9_code
def yX2_letterOf : MethodName := ⟨RX2, "letterOf", "(I)C"⟩
abbrev cX2_numberOf : ByteArray := prog_4_method_10_code
def yX2_numberOf : MethodName := ⟨RX2, "numberOf", "(I)I"⟩
def RX3 : String := "ChipPilers$Slot"
def TX3 : u_T := fun k => match k with
  | 0 => ("ChipPilers$Slot", "snapshot", "LChipPilers$State;", true)
  | _ => ("ChipPilers$Slot", "taken", "Z", false)
def tyX3 : Nat → FieldType := fun k => match k with
  | 0 => .object "ChipPilers$State"
  | _ => .boolean
abbrev wsX30 : List Cond := u_ws RX3 TX3 2
theorem nmX3 : ∀ a, a < 2 → ∀ b, b < 2 → a ≠ b → (TX3 a).2.1 ≠ (TX3 b).2.1 := by decide +kernel
theorem tyX3_ok : ∀ k, k < 2 → parseFieldDescriptor (TX3 k).2.2.1 = some (tyX3 k) := by decide +kernel
abbrev cX3_init : ByteArray := prog_5_method_1_code
def yX3_init : MethodName := ⟨RX3, "<init>", "()V"⟩
def RX4 : String := "ChipPilers$State"
def TX4 : u_T := fun k => match k with
  | 0 => ("ChipPilers$State", "rows", "I", false)
  | 1 => ("ChipPilers$State", "columns", "I", false)
  | 2 => ("ChipPilers$State", "chips", "[I", true)
  | 3 => ("ChipPilers$State", "walkers", "[LChipPilers$Walker;", true)
  | 4 => ("ChipPilers$State", "walkerCount", "I", false)
  | 5 => ("ChipPilers$State", "turns", "LChipPilers$Turns;", true)
  | 6 => ("ChipPilers$State", "merges", "I", false)
  | _ => ("ChipPilers$State", "splits", "I", false)
def tyX4 : Nat → FieldType := fun k => match k with
  | 0 => .int
  | 1 => .int
  | 2 => .array .int
  | 3 => .array (.object "ChipPilers$Walker")
  | 4 => .int
  | 5 => .object "ChipPilers$Turns"
  | 6 => .int
  | _ => .int
abbrev wsX40 : List Cond := u_ws RX4 TX4 8
theorem nmX4 : ∀ a, a < 8 → ∀ b, b < 8 → a ≠ b → (TX4 a).2.1 ≠ (TX4 b).2.1 := by decide +kernel
theorem tyX4_ok : ∀ k, k < 8 → parseFieldDescriptor (TX4 k).2.2.1 = some (tyX4 k) := by decide +kernel
abbrev cX4_init : ByteArray := prog_6_method_1_code
def yX4_init : MethodName := ⟨RX4, "<init>", "()V"⟩
abbrev cX4_copyFrom : ByteArray := prog_6_method_2_code
def yX4_copyFrom : MethodName := ⟨RX4, "copyFrom", "(LChipPilers$State;)V"⟩
abbrev cX4_hasCell : ByteArray := prog_6_method_3_code
def yX4_hasCell : MethodName := ⟨RX4, "hasCell", "(II)Z"⟩
abbrev cX4_cellAt : ByteArray := prog_6_method_4_code
def yX4_cellAt : MethodName := ⟨RX4, "cellAt", "(II)I"⟩
abbrev cX4_chipsOf : ByteArray := prog_6_method_5_code
def yX4_chipsOf : MethodName := ⟨RX4, "chipsOf", "(I)I"⟩
abbrev cX4_walkerAt : ByteArray := prog_6_method_6_code
def yX4_walkerAt : MethodName := ⟨RX4, "walkerAt", "(I)LChipPilers$Walker;"⟩
abbrev cX4_allChips : ByteArray := prog_6_method_7_code
def yX4_allChips : MethodName := ⟨RX4, "allChips", "()I"⟩
abbrev cX4_allPockets : ByteArray := prog_6_method_8_code
def yX4_allPockets : MethodName := ⟨RX4, "allPockets", "()I"⟩
abbrev cX4_allSteps : ByteArray := prog_6_method_9_code
def yX4_allSteps : MethodName := ⟨RX4, "allSteps", "()I"⟩
def RX5 : String := "ChipPilers$Turns"
def TX5 : u_T := fun k => match k with
  | 0 => ("ChipPilers$Turns", "numbers", "[I", true)
  | 1 => ("ChipPilers$Turns", "size", "I", false)
  | 2 => ("ChipPilers$Turns", "place", "I", false)
  | _ => ("ChipPilers$Turns", "replaceable", "Z", false)
def tyX5 : Nat → FieldType := fun k => match k with
  | 0 => .array .int
  | 1 => .int
  | 2 => .int
  | _ => .boolean
abbrev wsX50 : List Cond := u_ws RX5 TX5 4
theorem nmX5 : ∀ a, a < 4 → ∀ b, b < 4 → a ≠ b → (TX5 a).2.1 ≠ (TX5 b).2.1 := by decide +kernel
theorem tyX5_ok : ∀ k, k < 4 → parseFieldDescriptor (TX5 k).2.2.1 = some (tyX5 k) := by decide +kernel
abbrev cX5_init : ByteArray := prog_7_method_1_code
def yX5_init : MethodName := ⟨RX5, "<init>", "()V"⟩
abbrev cX5_begin : ByteArray := prog_7_method_2_code
def yX5_begin : MethodName := ⟨RX5, "begin", "()V"⟩
abbrev cX5_append : ByteArray := prog_7_method_3_code
def yX5_append : MethodName := ⟨RX5, "append", "(I)V"⟩
abbrev cX5_takeNext : ByteArray := prog_7_method_4_code
def yX5_takeNext : MethodName := ⟨RX5, "takeNext", "()I"⟩
abbrev cX5_copyFrom : ByteArray := prog_7_method_5_code
def yX5_copyFrom : MethodName := ⟨RX5, "copyFrom", "(LChipPilers$Turns;)V"⟩
def RX6 : String := "ChipPilers$Walker"
def TX6 : u_T := fun k => match k with
  | 0 => ("ChipPilers$Walker", "row", "I", false)
  | 1 => ("ChipPilers$Walker", "column", "I", false)
  | 2 => ("ChipPilers$Walker", "direction", "I", false)
  | 3 => ("ChipPilers$Walker", "pocket", "I", false)
  | 4 => ("ChipPilers$Walker", "capacity", "I", false)
  | 5 => ("ChipPilers$Walker", "sort", "I", false)
  | 6 => ("ChipPilers$Walker", "steps", "I", false)
  | 7 => ("ChipPilers$Walker", "picked", "I", false)
  | _ => ("ChipPilers$Walker", "dropped", "I", false)
def tyX6 : Nat → FieldType := fun k => match k with
  | 0 => .int
  | 1 => .int
  | 2 => .int
  | 3 => .int
  | 4 => .int
  | 5 => .int
  | 6 => .int
  | 7 => .int
  | _ => .int
abbrev wsX60 : List Cond := u_ws RX6 TX6 9
theorem nmX6 : ∀ a, a < 9 → ∀ b, b < 9 → a ≠ b → (TX6 a).2.1 ≠ (TX6 b).2.1 := by decide +kernel
theorem tyX6_ok : ∀ k, k < 9 → parseFieldDescriptor (TX6 k).2.2.1 = some (tyX6 k) := by decide +kernel
abbrev cX6_init : ByteArray := prog_8_method_1_code
def yX6_init : MethodName := ⟨RX6, "<init>", "()V"⟩
abbrev cX6_begin : ByteArray := prog_8_method_2_code
def yX6_begin : MethodName := ⟨RX6, "begin", "(IIIII)V"⟩
abbrev cX6_cell : ByteArray := prog_8_method_3_code
def yX6_cell : MethodName := ⟨RX6, "cell", "()I"⟩
abbrev cX6_copyFrom : ByteArray := prog_8_method_4_code
def yX6_copyFrom : MethodName := ⟨RX6, "copyFrom", "(LChipPilers$Walker;)V"⟩
def RX7 : String := "ChipPilers$World"
def TX7 : u_T := fun k => match k with
  | 0 => ("ChipPilers$World", "state", "LChipPilers$State;", true)
  | _ => ("ChipPilers$World", "heaps", "LChipPilers$Heaps;", true)
def tyX7 : Nat → FieldType := fun k => match k with
  | 0 => .object "ChipPilers$State"
  | _ => .object "ChipPilers$Heaps"
abbrev wsX70 : List Cond := u_ws RX7 TX7 2
theorem nmX7 : ∀ a, a < 2 → ∀ b, b < 2 → a ≠ b → (TX7 a).2.1 ≠ (TX7 b).2.1 := by decide +kernel
theorem tyX7_ok : ∀ k, k < 2 → parseFieldDescriptor (TX7 k).2.2.1 = some (tyX7 k) := by decide +kernel
abbrev cX7_init : ByteArray := prog_9_method_1_code
def yX7_init : MethodName := ⟨RX7, "<init>", "()V"⟩
abbrev cX7_load : ByteArray := prog_9_method_2_code
def yX7_load : MethodName := ⟨RX7, "load", "(LChipPilers$State;)V"⟩
abbrev cX7_clearBoard : ByteArray := prog_9_method_3_code
def yX7_clearBoard : MethodName := ⟨RX7, "clearBoard", "(II)V"⟩
abbrev cX7_setChips : ByteArray := prog_9_method_4_code
def yX7_setChips : MethodName := ⟨RX7, "setChips", "(II)V"⟩
abbrev cX7_chipsUnder : ByteArray := prog_9_method_5_code
def yX7_chipsUnder : MethodName := ⟨RX7, "chipsUnder", "(LChipPilers$Walker;)I"⟩
abbrev cX7_strewOver : ByteArray := prog_9_method_6_code
def yX7_strewOver : MethodName := ⟨RX7, "strewOver", "(IIIZ)I"⟩
abbrev cX7_pickUp : ByteArray := prog_9_method_7_code
def yX7_pickUp : MethodName := ⟨RX7, "pickUp", "(LChipPilers$Walker;I)V"⟩
abbrev cX7_makeRounds : ByteArray := prog_9_method_8_code
def yX7_makeRounds : MethodName := ⟨RX7, "makeRounds", "(I)V"⟩
abbrev cX7_makeStep : ByteArray := prog_9_method_9_code
def yX7_makeStep : MethodName := ⟨RX7, "makeStep", "(LChipPilers$Walker;)V"⟩
abbrev cX7_obey : ByteArray := prog_9_method_10_code
def yX7_obey : MethodName := ⟨RX7, "obey", "(LChipPilers$Walker;CI)V"⟩
abbrev cX7_stepAhead : ByteArray := prog_9_method_11_code
def yX7_stepAhead : MethodName := ⟨RX7, "stepAhead", "(LChipPilers$Walker;I)V"⟩
abbrev cX7_pickedBySort : ByteArray := prog_9_method_12_code
def yX7_pickedBySort : MethodName := ⟨RX7, "pickedBySort", "(LChipPilers$Walker;)I"⟩
abbrev cX7_hasWall : ByteArray := prog_9_method_13_code
def yX7_hasWall : MethodName := ⟨RX7, "hasWall", "(LChipPilers$Walker;I)Z"⟩
abbrev cX7_rowAhead : ByteArray := prog_9_method_14_code
def yX7_rowAhead : MethodName := ⟨RX7, "rowAhead", "(LChipPilers$Walker;I)I"⟩
abbrev cX7_columnAhead : ByteArray := prog_9_method_15_code
def yX7_columnAhead : MethodName := ⟨RX7, "columnAhead", "(LChipPilers$Walker;I)I"⟩
abbrev cX7_toTheRight : ByteArray := prog_9_method_16_code
def yX7_toTheRight : MethodName := ⟨RX7, "toTheRight", "(II)I"⟩
abbrev cX7_turned : ByteArray := prog_9_method_17_code
def yX7_turned : MethodName := ⟨RX7, "turned", "(II)I"⟩
abbrev cX7_directionOf : ByteArray := prog_9_method_18_code
def yX7_directionOf : MethodName := ⟨RX7, "directionOf", "(C)I"⟩
def RX8 : String := "ChipPilers"
def TX8 : u_T := fun k => match k with
  | 0 => ("ChipPilers", "world", "LChipPilers$World;", true)
  | 1 => ("ChipPilers", "history", "LChipPilers$History;", true)
  | 2 => ("ChipPilers", "plan", "LChipPilers$Plan;", true)
  | 3 => ("ChipPilers", "slots", "[LChipPilers$Slot;", true)
  | _ => ("ChipPilers", "aside", "LChipPilers$State;", true)
def tyX8 : Nat → FieldType := fun k => match k with
  | 0 => .object "ChipPilers$World"
  | 1 => .object "ChipPilers$History"
  | 2 => .object "ChipPilers$Plan"
  | 3 => .array (.object "ChipPilers$Slot")
  | _ => .object "ChipPilers$State"
abbrev wsX80 : List Cond := u_ws RX8 TX8 5
theorem nmX8 : ∀ a, a < 5 → ∀ b, b < 5 → a ≠ b → (TX8 a).2.1 ≠ (TX8 b).2.1 := by decide +kernel
theorem tyX8_ok : ∀ k, k < 5 → parseFieldDescriptor (TX8 k).2.2.1 = some (tyX8 k) := by decide +kernel
abbrev cX8_init : ByteArray := prog_1_method_1_code
def yX8_init : MethodName := ⟨RX8, "<init>", "()V"⟩
abbrev cX8_reset : ByteArray := prog_1_method_2_code
def yX8_reset : MethodName := ⟨RX8, "reset", "(II)I"⟩
abbrev cX8_put : ByteArray := prog_1_method_3_code
def yX8_put : MethodName := ⟨RX8, "put", "(III)I"⟩
abbrev cX8_strew : ByteArray := prog_1_method_4_code
def yX8_strew : MethodName := ⟨RX8, "strew", "(III)I"⟩
abbrev cX8_addWalker : ByteArray := prog_1_method_5_code
def yX8_addWalker : MethodName := ⟨RX8, "addWalker", "(IIIII)I"⟩
abbrev cX8_setSort : ByteArray := prog_1_method_6_code
def yX8_setSort : MethodName := ⟨RX8, "setSort", "(II)I"⟩
abbrev cX8_empty : ByteArray := prog_1_method_7_code
def yX8_empty : MethodName := ⟨RX8, "empty", "(I)I"⟩
abbrev cX8_addTurn : ByteArray := prog_1_method_8_code
def yX8_addTurn : MethodName := ⟨RX8, "addTurn", "(I)I"⟩
abbrev cX8_clearTurns : ByteArray := prog_1_method_9_code
def yX8_clearTurns : MethodName := ⟨RX8, "clearTurns", "()I"⟩
abbrev cX8_walk : ByteArray := prog_1_method_10_code
def yX8_walk : MethodName := ⟨RX8, "walk", "(II)I"⟩
abbrev cX8_rounds : ByteArray := prog_1_method_11_code
def yX8_rounds : MethodName := ⟨RX8, "rounds", "(I)I"⟩
abbrev cX8_type : ByteArray := prog_1_method_12_code
def yX8_type : MethodName := ⟨RX8, "type", "(C)I"⟩
abbrev cX8_clearText : ByteArray := prog_1_method_13_code
def yX8_clearText : MethodName := ⟨RX8, "clearText", "()I"⟩
abbrev cX8_run : ByteArray := prog_1_method_14_code
def yX8_run : MethodName := ⟨RX8, "run", "()I"⟩
abbrev cX8_undo : ByteArray := prog_1_method_15_code
def yX8_undo : MethodName := ⟨RX8, "undo", "()I"⟩
abbrev cX8_keep : ByteArray := prog_1_method_16_code
def yX8_keep : MethodName := ⟨RX8, "keep", "(I)I"⟩
abbrev cX8_restore : ByteArray := prog_1_method_17_code
def yX8_restore : MethodName := ⟨RX8, "restore", "(I)I"⟩
abbrev cX8_chips : ByteArray := prog_1_method_18_code
def yX8_chips : MethodName := ⟨RX8, "chips", "(II)I"⟩
abbrev cX8_walker : ByteArray := prog_1_method_19_code
def yX8_walker : MethodName := ⟨RX8, "walker", "(II)I"⟩
abbrev cX8_heap : ByteArray := prog_1_method_20_code
def yX8_heap : MethodName := ⟨RX8, "heap", "(II)I"⟩
abbrev cX8_heapOf : ByteArray := prog_1_method_21_code
def yX8_heapOf : MethodName := ⟨RX8, "heapOf", "(II)I"⟩
abbrev cX8_roundsUntil : ByteArray := prog_1_method_22_code
def yX8_roundsUntil : MethodName := ⟨RX8, "roundsUntil", "(I)I"⟩
abbrev cX8_turn : ByteArray := prog_1_method_23_code
def yX8_turn : MethodName := ⟨RX8, "turn", "(I)I"⟩
abbrev cX8_count : ByteArray := prog_1_method_24_code
def yX8_count : MethodName := ⟨RX8, "count", "(I)I"⟩
abbrev cX8_isBetween : ByteArray := prog_1_method_25_code
def yX8_isBetween : MethodName := ⟨RX8, "isBetween", "(III)Z"⟩
abbrev cX8_isSort : ByteArray := prog_1_method_26_code
def yX8_isSort : MethodName := ⟨RX8, "isSort", "(I)Z"⟩
abbrev cX8_slotAt : ByteArray := prog_1_method_27_code
def yX8_slotAt : MethodName := ⟨RX8, "slotAt", "(I)LChipPilers$Slot;"⟩
def RX9 : String := "ChipPilersModel"
def TX9 : u_T := fun k => match k with
  | _ => ("", "", "", false)
def tyX9 : Nat → FieldType := fun k => match k with
  | _ => .int
abbrev wsX90 : List Cond := u_ws RX9 TX9 0
theorem nmX9 : ∀ a, a < 0 → ∀ b, b < 0 → a ≠ b → (TX9 a).2.1 ≠ (TX9 b).2.1 := by decide +kernel
theorem tyX9_ok : ∀ k, k < 0 → parseFieldDescriptor (TX9 k).2.2.1 = some (tyX9 k) := by decide +kernel
def RJ9 : String := "java/lang/Math"
def TJ9 : u_T := fun k => match k with
  | _ => ("", "", "", false)
def tyJ9 : Nat → FieldType := fun k => match k with
  | _ => .int
abbrev wsJ90 : List Cond := u_ws RJ9 TJ9 0
theorem nmJ9 : ∀ a, a < 0 → ∀ b, b < 0 → a ≠ b → (TJ9 a).2.1 ≠ (TJ9 b).2.1 := by decide +kernel
theorem tyJ9_ok : ∀ k, k < 0 → parseFieldDescriptor (TJ9 k).2.2.1 = some (tyJ9 k) := by decide +kernel
abbrev cJ9_max_7cf53 : ByteArray := prog_12_method_65_code
def yJ9_max_7cf53 : MethodName := ⟨RJ9, "max", "(II)I"⟩
abbrev cJ9_min_7cf53 : ByteArray := prog_12_method_69_code
def yJ9_min_7cf53 : MethodName := ⟨RJ9, "min", "(II)I"⟩
def RJ10 : String := "java/lang/System"
def TJ10 : u_T := fun k => match k with
  | _ => ("", "", "", false)
def tyJ10 : Nat → FieldType := fun k => match k with
  | _ => .int
abbrev wsJ100 : List Cond := u_ws RJ10 TJ10 0
theorem nmJ10 : ∀ a, a < 0 → ∀ b, b < 0 → a ≠ b → (TJ10 a).2.1 ≠ (TJ10 b).2.1 := by decide +kernel
theorem tyJ10_ok : ∀ k, k < 0 → parseFieldDescriptor (TJ10 k).2.2.1 = some (tyJ10 k) := by decide +kernel
def RJ7 : String := "java/util/Arrays"
def TJ7 : u_T := fun k => match k with
  | _ => ("", "", "", false)
def tyJ7 : Nat → FieldType := fun k => match k with
  | _ => .int
abbrev wsJ70 : List Cond := u_ws RJ7 TJ7 0
theorem nmJ7 : ∀ a, a < 0 → ∀ b, b < 0 → a ≠ b → (TJ7 a).2.1 ≠ (TJ7 b).2.1 := by decide +kernel
theorem tyJ7_ok : ∀ k, k < 0 → parseFieldDescriptor (TJ7 k).2.2.1 = some (tyJ7 k) := by decide +kernel
abbrev cJ7_fill_53178 : ByteArray := prog_14_method_103_code
def yJ7_fill_53178 : MethodName := ⟨RJ7, "fill", "([II)V"⟩
def RL : String := "ChipPilersLaw"
abbrev cL_cell : ByteArray := method_2_code
def yL_cell : MethodName := ⟨RL, "cell", "([II)I"⟩
abbrev cL_low : ByteArray := method_3_code
def yL_low : MethodName := ⟨RL, "low", "(II)I"⟩
abbrev cL_heaps : ByteArray := method_4_code
def yL_heaps : MethodName := ⟨RL, "heaps", "(LChipPilers;)Z"⟩
abbrev cL_walkers : ByteArray := method_5_code
def yL_walkers : MethodName := ⟨RL, "walkers", "(LChipPilers;)Z"⟩
abbrev cL_wall : ByteArray := method_6_code
def yL_wall : MethodName := ⟨RL, "wall", "(LChipPilers;III)Z"⟩
abbrev cL_act : ByteArray := method_7_code
def yL_act : MethodName := ⟨RL, "act", "(IIIIZ)I"⟩
abbrev cL_steps : ByteArray := method_8_code
def yL_steps : MethodName := ⟨RL, "steps", "(LChipPilers;I)Z"⟩
abbrev cL_plans : ByteArray := method_9_code
def yL_plans : MethodName := ⟨RL, "plans", "(LChipPilers;II)Z"⟩
abbrev cL_until : ByteArray := method_10_code
def yL_until : MethodName := ⟨RL, "until", "(LChipPilers;I)Z"⟩
abbrev cL_errors : ByteArray := method_11_code
def yL_errors : MethodName := ⟨RL, "errors", "(LChipPilers;)Z"⟩
abbrev cL_law : ByteArray := code
def yL_law : MethodName := ⟨RL, "law", "([I)Z"⟩
abbrev vwCl : List vw_C := [(RX0, TX0, 7), (RX1, TX1, 2), (RX2, TX2, 6), (RX3, TX3, 2), (RX4, TX4, 8), (RX5, TX5, 4), (RX6, TX6, 9), (RX7, TX7, 2), (RX8, TX8, 5)]
