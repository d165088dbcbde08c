section
-- ===== PART A: goes FIRST, ahead of the names: the tables' words, and 'selects' of the private methods out of them =====
/-- a private method of a class that the tables say can be made, by its rows of tables_1 -/
def lw_okq (q : MethodName × Nat) : Prop := (q.1.cls ≠ "java/lang/invoke/MethodHandle" ∧ q.1.cls ≠ "java/lang/invoke/VarHandle") ∧ Cond.instantiable q.1.cls q.2 ∈ tables_1 ∧ Cond.privateMethod q.1 ∈ tables_1 ∧ Cond.instanceMethod q.1 ∈ tables_1
theorem lw_p0 : lw_okq (⟨"ChipPilers$History", "dropOldest", "()V"⟩, 2) := ⟨⟨by decide +kernel, by decide +kernel⟩, List.mem_of_getElem? (i := 192) (by decide +kernel), List.mem_of_getElem? (i := 284) (by decide +kernel), List.mem_of_getElem? (i := 285) (by decide +kernel)⟩
theorem lw_p1 : lw_okq (⟨"ChipPilers$History", "stateAt", "(I)LChipPilers$State;"⟩, 2) := ⟨⟨by decide +kernel, by decide +kernel⟩, List.mem_of_getElem? (i := 192) (by decide +kernel), List.mem_of_getElem? (i := 288) (by decide +kernel), List.mem_of_getElem? (i := 289) (by decide +kernel)⟩
theorem lw_p2 : lw_okq (⟨"ChipPilers$World", "hasWall", "(LChipPilers$Walker;I)Z"⟩, 2) := ⟨⟨by decide +kernel, by decide +kernel⟩, List.mem_of_getElem? (i := 23) (by decide +kernel), List.mem_of_getElem? (i := 425) (by decide +kernel), List.mem_of_getElem? (i := 426) (by decide +kernel)⟩
theorem lw_p3 : lw_okq (⟨"ChipPilers$World", "stepAhead", "(LChipPilers$Walker;I)V"⟩, 2) := ⟨⟨by decide +kernel, by decide +kernel⟩, List.mem_of_getElem? (i := 23) (by decide +kernel), List.mem_of_getElem? (i := 436) (by decide +kernel), List.mem_of_getElem? (i := 437) (by decide +kernel)⟩
theorem lw_p4 : lw_okq (⟨"ChipPilers$Heaps", "findHeap", "([III)V"⟩, 7) := ⟨⟨by decide +kernel, by decide +kernel⟩, List.mem_of_getElem? (i := 152) (by decide +kernel), List.mem_of_getElem? (i := 445) (by decide +kernel), List.mem_of_getElem? (i := 446) (by decide +kernel)⟩
theorem lw_p5 : lw_okq (⟨"ChipPilers$World", "pickedBySort", "(LChipPilers$Walker;)I"⟩, 2) := ⟨⟨by decide +kernel, by decide +kernel⟩, List.mem_of_getElem? (i := 23) (by decide +kernel), List.mem_of_getElem? (i := 452) (by decide +kernel), List.mem_of_getElem? (i := 453) (by decide +kernel)⟩
theorem lw_p6 : lw_okq (⟨"ChipPilers$Heaps", "comesAhead", "(II)Z"⟩, 7) := ⟨⟨by decide +kernel, by decide +kernel⟩, List.mem_of_getElem? (i := 152) (by decide +kernel), List.mem_of_getElem? (i := 467) (by decide +kernel), List.mem_of_getElem? (i := 468) (by decide +kernel)⟩
theorem lw_p7 : lw_okq (⟨"ChipPilers$Plan", "takes", "(CI)Z"⟩, 6) := ⟨⟨by decide +kernel, by decide +kernel⟩, List.mem_of_getElem? (i := 209) (by decide +kernel), List.mem_of_getElem? (i := 506) (by decide +kernel), List.mem_of_getElem? (i := 507) (by decide +kernel)⟩
theorem lw_p8 : lw_okq (⟨"ChipPilers$Plan", "takesWalker", "(II)Z"⟩, 6) := ⟨⟨by decide +kernel, by decide +kernel⟩, List.mem_of_getElem? (i := 209) (by decide +kernel), List.mem_of_getElem? (i := 510) (by decide +kernel), List.mem_of_getElem? (i := 511) (by decide +kernel)⟩
theorem lw_p9 : lw_okq (⟨"ChipPilers$Plan", "takesDigit", "(I)Z"⟩, 6) := ⟨⟨by decide +kernel, by decide +kernel⟩, List.mem_of_getElem? (i := 209) (by decide +kernel), List.mem_of_getElem? (i := 514) (by decide +kernel), List.mem_of_getElem? (i := 515) (by decide +kernel)⟩
theorem lw_p10 : lw_okq (⟨"ChipPilers$Plan", "takesLetter", "(CI)Z"⟩, 6) := ⟨⟨by decide +kernel, by decide +kernel⟩, List.mem_of_getElem? (i := 209) (by decide +kernel), List.mem_of_getElem? (i := 519) (by decide +kernel), List.mem_of_getElem? (i := 520) (by decide +kernel)⟩
theorem lw_p11 : lw_okq (⟨"ChipPilers", "slotAt", "(I)LChipPilers$Slot;"⟩, 5) := ⟨⟨by decide +kernel, by decide +kernel⟩, List.mem_of_getElem? (i := 15) (by decide +kernel), List.mem_of_getElem? (i := 563) (by decide +kernel), List.mem_of_getElem? (i := 564) (by decide +kernel)⟩
theorem lw_p12 : lw_okq (⟨"ChipPilersModel", "allChips", "()I"⟩, 18) := ⟨⟨by decide +kernel, by decide +kernel⟩, List.mem_of_getElem? (i := 623) (by decide +kernel), List.mem_of_getElem? (i := 696) (by decide +kernel), List.mem_of_getElem? (i := 697) (by decide +kernel)⟩
theorem lw_p13 : lw_okq (⟨"ChipPilersModel", "begin", "()V"⟩, 18) := ⟨⟨by decide +kernel, by decide +kernel⟩, List.mem_of_getElem? (i := 623) (by decide +kernel), List.mem_of_getElem? (i := 704) (by decide +kernel), List.mem_of_getElem? (i := 705) (by decide +kernel)⟩
theorem lw_p14 : lw_okq (⟨"ChipPilersModel", "done", "(I)I"⟩, 18) := ⟨⟨by decide +kernel, by decide +kernel⟩, List.mem_of_getElem? (i := 623) (by decide +kernel), List.mem_of_getElem? (i := 708) (by decide +kernel), List.mem_of_getElem? (i := 709) (by decide +kernel)⟩
theorem lw_p15 : lw_okq (⟨"ChipPilersModel", "isCell", "(II)Z"⟩, 18) := ⟨⟨by decide +kernel, by decide +kernel⟩, List.mem_of_getElem? (i := 623) (by decide +kernel), List.mem_of_getElem? (i := 720) (by decide +kernel), List.mem_of_getElem? (i := 721) (by decide +kernel)⟩
def lw_privs_1 : List (MethodName × Nat) := [(⟨"ChipPilers$History", "dropOldest", "()V"⟩, 2), (⟨"ChipPilers$History", "stateAt", "(I)LChipPilers$State;"⟩, 2), (⟨"ChipPilers$World", "hasWall", "(LChipPilers$Walker;I)Z"⟩, 2), (⟨"ChipPilers$World", "stepAhead", "(LChipPilers$Walker;I)V"⟩, 2), (⟨"ChipPilers$Heaps", "findHeap", "([III)V"⟩, 7), (⟨"ChipPilers$World", "pickedBySort", "(LChipPilers$Walker;)I"⟩, 2), (⟨"ChipPilers$Heaps", "comesAhead", "(II)Z"⟩, 7), (⟨"ChipPilers$Plan", "takes", "(CI)Z"⟩, 6), (⟨"ChipPilers$Plan", "takesWalker", "(II)Z"⟩, 6), (⟨"ChipPilers$Plan", "takesDigit", "(I)Z"⟩, 6), (⟨"ChipPilers$Plan", "takesLetter", "(CI)Z"⟩, 6), (⟨"ChipPilers", "slotAt", "(I)LChipPilers$Slot;"⟩, 5), (⟨"ChipPilersModel", "allChips", "()I"⟩, 18), (⟨"ChipPilersModel", "begin", "()V"⟩, 18), (⟨"ChipPilersModel", "done", "(I)I"⟩, 18), (⟨"ChipPilersModel", "isCell", "(II)Z"⟩, 18)]
theorem lw_r1 : ∀ q ∈ lw_privs_1, lw_okq q := List.forall_mem_cons.mpr ⟨lw_p0, List.forall_mem_cons.mpr ⟨lw_p1, List.forall_mem_cons.mpr ⟨lw_p2, List.forall_mem_cons.mpr ⟨lw_p3, List.forall_mem_cons.mpr ⟨lw_p4, List.forall_mem_cons.mpr ⟨lw_p5, List.forall_mem_cons.mpr ⟨lw_p6, List.forall_mem_cons.mpr ⟨lw_p7, List.forall_mem_cons.mpr ⟨lw_p8, List.forall_mem_cons.mpr ⟨lw_p9, List.forall_mem_cons.mpr ⟨lw_p10, List.forall_mem_cons.mpr ⟨lw_p11, List.forall_mem_cons.mpr ⟨lw_p12, List.forall_mem_cons.mpr ⟨lw_p13, List.forall_mem_cons.mpr ⟨lw_p14, List.forall_mem_cons.mpr ⟨lw_p15, fun _ h => absurd h List.not_mem_nil⟩⟩⟩⟩⟩⟩⟩⟩⟩⟩⟩⟩⟩⟩⟩⟩
theorem lw_p16 : lw_okq (⟨"ChipPilersModel", "lay", "(III)V"⟩, 18) := ⟨⟨by decide +kernel, by decide +kernel⟩, List.mem_of_getElem? (i := 623) (by decide +kernel), List.mem_of_getElem? (i := 732) (by decide +kernel), List.mem_of_getElem? (i := 733) (by decide +kernel)⟩
theorem lw_p17 : lw_okq (⟨"ChipPilersModel", "noWalker", "(I)Z"⟩, 18) := ⟨⟨by decide +kernel, by decide +kernel⟩, List.mem_of_getElem? (i := 623) (by decide +kernel), List.mem_of_getElem? (i := 740) (by decide +kernel), List.mem_of_getElem? (i := 741) (by decide +kernel)⟩
theorem lw_p18 : lw_okq (⟨"ChipPilersModel", "of", "(II)I"⟩, 18) := ⟨⟨by decide +kernel, by decide +kernel⟩, List.mem_of_getElem? (i := 623) (by decide +kernel), List.mem_of_getElem? (i := 744) (by decide +kernel), List.mem_of_getElem? (i := 745) (by decide +kernel)⟩
theorem lw_p19 : lw_okq (⟨"ChipPilersModel", "cellOf", "(I)I"⟩, 18) := ⟨⟨by decide +kernel, by decide +kernel⟩, List.mem_of_getElem? (i := 623) (by decide +kernel), List.mem_of_getElem? (i := 752) (by decide +kernel), List.mem_of_getElem? (i := 753) (by decide +kernel)⟩
theorem lw_p20 : lw_okq (⟨"ChipPilersModel", "drop", "(II)V"⟩, 18) := ⟨⟨by decide +kernel, by decide +kernel⟩, List.mem_of_getElem? (i := 623) (by decide +kernel), List.mem_of_getElem? (i := 756) (by decide +kernel), List.mem_of_getElem? (i := 757) (by decide +kernel)⟩
theorem lw_p21 : lw_okq (⟨"ChipPilersModel", "step", "(I)V"⟩, 18) := ⟨⟨by decide +kernel, by decide +kernel⟩, List.mem_of_getElem? (i := 623) (by decide +kernel), List.mem_of_getElem? (i := 772) (by decide +kernel), List.mem_of_getElem? (i := 773) (by decide +kernel)⟩
theorem lw_p22 : lw_okq (⟨"ChipPilersModel", "nextTurn", "()I"⟩, 18) := ⟨⟨by decide +kernel, by decide +kernel⟩, List.mem_of_getElem? (i := 623) (by decide +kernel), List.mem_of_getElem? (i := 776) (by decide +kernel), List.mem_of_getElem? (i := 777) (by decide +kernel)⟩
theorem lw_p23 : lw_okq (⟨"ChipPilersModel", "stepped", "(II)I"⟩, 18) := ⟨⟨by decide +kernel, by decide +kernel⟩, List.mem_of_getElem? (i := 623) (by decide +kernel), List.mem_of_getElem? (i := 780) (by decide +kernel), List.mem_of_getElem? (i := 781) (by decide +kernel)⟩
theorem lw_p24 : lw_okq (⟨"ChipPilersModel", "goAhead", "(I)V"⟩, 18) := ⟨⟨by decide +kernel, by decide +kernel⟩, List.mem_of_getElem? (i := 623) (by decide +kernel), List.mem_of_getElem? (i := 784) (by decide +kernel), List.mem_of_getElem? (i := 785) (by decide +kernel)⟩
theorem lw_p25 : lw_okq (⟨"ChipPilersModel", "findHeaps", "()V"⟩, 18) := ⟨⟨by decide +kernel, by decide +kernel⟩, List.mem_of_getElem? (i := 623) (by decide +kernel), List.mem_of_getElem? (i := 788) (by decide +kernel), List.mem_of_getElem? (i := 789) (by decide +kernel)⟩
theorem lw_p26 : lw_okq (⟨"ChipPilersModel", "spread", "(I)V"⟩, 18) := ⟨⟨by decide +kernel, by decide +kernel⟩, List.mem_of_getElem? (i := 623) (by decide +kernel), List.mem_of_getElem? (i := 792) (by decide +kernel), List.mem_of_getElem? (i := 793) (by decide +kernel)⟩
theorem lw_p27 : lw_okq (⟨"ChipPilersModel", "actBySort", "(I)V"⟩, 18) := ⟨⟨by decide +kernel, by decide +kernel⟩, List.mem_of_getElem? (i := 623) (by decide +kernel), List.mem_of_getElem? (i := 796) (by decide +kernel), List.mem_of_getElem? (i := 797) (by decide +kernel)⟩
theorem lw_p28 : lw_okq (⟨"ChipPilersModel", "pick", "(II)V"⟩, 18) := ⟨⟨by decide +kernel, by decide +kernel⟩, List.mem_of_getElem? (i := 623) (by decide +kernel), List.mem_of_getElem? (i := 800) (by decide +kernel), List.mem_of_getElem? (i := 801) (by decide +kernel)⟩
theorem lw_p29 : lw_okq (⟨"ChipPilersModel", "placeOf", "(I)I"⟩, 18) := ⟨⟨by decide +kernel, by decide +kernel⟩, List.mem_of_getElem? (i := 623) (by decide +kernel), List.mem_of_getElem? (i := 807) (by decide +kernel), List.mem_of_getElem? (i := 808) (by decide +kernel)⟩
theorem lw_p30 : lw_okq (⟨"ChipPilersModel", "isAhead", "(II)Z"⟩, 18) := ⟨⟨by decide +kernel, by decide +kernel⟩, List.mem_of_getElem? (i := 623) (by decide +kernel), List.mem_of_getElem? (i := 811) (by decide +kernel), List.mem_of_getElem? (i := 812) (by decide +kernel)⟩
theorem lw_p31 : lw_okq (⟨"ChipPilersModel", "oneRound", "()V"⟩, 18) := ⟨⟨by decide +kernel, by decide +kernel⟩, List.mem_of_getElem? (i := 623) (by decide +kernel), List.mem_of_getElem? (i := 819) (by decide +kernel), List.mem_of_getElem? (i := 820) (by decide +kernel)⟩
def lw_privs_2 : List (MethodName × Nat) := [(⟨"ChipPilersModel", "lay", "(III)V"⟩, 18), (⟨"ChipPilersModel", "noWalker", "(I)Z"⟩, 18), (⟨"ChipPilersModel", "of", "(II)I"⟩, 18), (⟨"ChipPilersModel", "cellOf", "(I)I"⟩, 18), (⟨"ChipPilersModel", "drop", "(II)V"⟩, 18), (⟨"ChipPilersModel", "step", "(I)V"⟩, 18), (⟨"ChipPilersModel", "nextTurn", "()I"⟩, 18), (⟨"ChipPilersModel", "stepped", "(II)I"⟩, 18), (⟨"ChipPilersModel", "goAhead", "(I)V"⟩, 18), (⟨"ChipPilersModel", "findHeaps", "()V"⟩, 18), (⟨"ChipPilersModel", "spread", "(I)V"⟩, 18), (⟨"ChipPilersModel", "actBySort", "(I)V"⟩, 18), (⟨"ChipPilersModel", "pick", "(II)V"⟩, 18), (⟨"ChipPilersModel", "placeOf", "(I)I"⟩, 18), (⟨"ChipPilersModel", "isAhead", "(II)Z"⟩, 18), (⟨"ChipPilersModel", "oneRound", "()V"⟩, 18)]
theorem lw_r2 : ∀ q ∈ lw_privs_2, lw_okq q := List.forall_mem_cons.mpr ⟨lw_p16, List.forall_mem_cons.mpr ⟨lw_p17, List.forall_mem_cons.mpr ⟨lw_p18, List.forall_mem_cons.mpr ⟨lw_p19, List.forall_mem_cons.mpr ⟨lw_p20, List.forall_mem_cons.mpr ⟨lw_p21, List.forall_mem_cons.mpr ⟨lw_p22, List.forall_mem_cons.mpr ⟨lw_p23, List.forall_mem_cons.mpr ⟨lw_p24, List.forall_mem_cons.mpr ⟨lw_p25, List.forall_mem_cons.mpr ⟨lw_p26, List.forall_mem_cons.mpr ⟨lw_p27, List.forall_mem_cons.mpr ⟨lw_p28, List.forall_mem_cons.mpr ⟨lw_p29, List.forall_mem_cons.mpr ⟨lw_p30, List.forall_mem_cons.mpr ⟨lw_p31, fun _ h => absurd h List.not_mem_nil⟩⟩⟩⟩⟩⟩⟩⟩⟩⟩⟩⟩⟩⟩⟩⟩
theorem lw_p32 : lw_okq (⟨"ChipPilersModel", "goBack", "()V"⟩, 18) := ⟨⟨by decide +kernel, by decide +kernel⟩, List.mem_of_getElem? (i := 623) (by decide +kernel), List.mem_of_getElem? (i := 827) (by decide +kernel), List.mem_of_getElem? (i := 828) (by decide +kernel)⟩
theorem lw_p33 : lw_okq (⟨"ChipPilersModel", "readPlan", "()I"⟩, 18) := ⟨⟨by decide +kernel, by decide +kernel⟩, List.mem_of_getElem? (i := 623) (by decide +kernel), List.mem_of_getElem? (i := 843) (by decide +kernel), List.mem_of_getElem? (i := 844) (by decide +kernel)⟩
theorem lw_p34 : lw_okq (⟨"ChipPilersModel", "isLetter", "(C)Z"⟩, 18) := ⟨⟨by decide +kernel, by decide +kernel⟩, List.mem_of_getElem? (i := 623) (by decide +kernel), List.mem_of_getElem? (i := 847) (by decide +kernel), List.mem_of_getElem? (i := 848) (by decide +kernel)⟩
theorem lw_p35 : lw_okq (⟨"ChipPilersModel", "isDigit", "(I)Z"⟩, 18) := ⟨⟨by decide +kernel, by decide +kernel⟩, List.mem_of_getElem? (i := 623) (by decide +kernel), List.mem_of_getElem? (i := 854) (by decide +kernel), List.mem_of_getElem? (i := 855) (by decide +kernel)⟩
theorem lw_p36 : lw_okq (⟨"ChipPilersModel", "carryOut", "(ICI)V"⟩, 18) := ⟨⟨by decide +kernel, by decide +kernel⟩, List.mem_of_getElem? (i := 623) (by decide +kernel), List.mem_of_getElem? (i := 858) (by decide +kernel), List.mem_of_getElem? (i := 859) (by decide +kernel)⟩
theorem lw_p37 : lw_okq (⟨"ChipPilersModel", "pocketed", "()I"⟩, 18) := ⟨⟨by decide +kernel, by decide +kernel⟩, List.mem_of_getElem? (i := 623) (by decide +kernel), List.mem_of_getElem? (i := 886) (by decide +kernel), List.mem_of_getElem? (i := 887) (by decide +kernel)⟩
def lw_privs_3 : List (MethodName × Nat) := [(⟨"ChipPilersModel", "goBack", "()V"⟩, 18), (⟨"ChipPilersModel", "readPlan", "()I"⟩, 18), (⟨"ChipPilersModel", "isLetter", "(C)Z"⟩, 18), (⟨"ChipPilersModel", "isDigit", "(I)Z"⟩, 18), (⟨"ChipPilersModel", "carryOut", "(ICI)V"⟩, 18), (⟨"ChipPilersModel", "pocketed", "()I"⟩, 18)]
theorem lw_r3 : ∀ q ∈ lw_privs_3, lw_okq q := List.forall_mem_cons.mpr ⟨lw_p32, List.forall_mem_cons.mpr ⟨lw_p33, List.forall_mem_cons.mpr ⟨lw_p34, List.forall_mem_cons.mpr ⟨lw_p35, List.forall_mem_cons.mpr ⟨lw_p36, List.forall_mem_cons.mpr ⟨lw_p37, fun _ h => absurd h List.not_mem_nil⟩⟩⟩⟩⟩⟩
def lw_privs : List (MethodName × Nat) := lw_privs_1 ++ (lw_privs_2 ++ (lw_privs_3))
def lw_tbl : List Cond := k2_sels lw_privs ++ tables_1
theorem lw_privs_ok : ∀ q ∈ lw_privs, lw_okq q := by
  show ∀ q ∈ lw_privs_1 ++ (lw_privs_2 ++ (lw_privs_3)), lw_okq q
  exact List.forall_mem_append.mpr ⟨lw_r1, List.forall_mem_append.mpr ⟨lw_r2, lw_r3⟩⟩

def RX0 : String := "ChipPilers$Heaps"
def TX0 : u_T := fun k => match k with
  | 0 => ("ChipPilers$Heaps", "sizes", "[I", true)
  | 1 => ("ChipPilers$Heaps", "cellCounts", "[I", true)
  | 2 => ("ChipPilers$Heaps", "firstCells", "[I", true)
  | 3 => ("ChipPilers$Heaps", "heapOfCell", "[I", true)
  | 4 => ("ChipPilers$Heaps", "found", "[I", true)
  | 5 => ("ChipPilers$Heaps", "number", "I", false)
  | _ => ("ChipPilers$Heaps", "stale", "Z", false)
def tyX0 : Nat → FieldType := fun k => match k with
  | 0 => .array .int
  | 1 => .array .int
  | 2 => .array .int
  | 3 => .array .int
  | 4 => .array .int
  | 5 => .int
  | _ => .boolean
abbrev wsX00 : List Cond := u_ws RX0 TX0 7
theorem nmX0 : ∀ a, a < 7 → ∀ b, b < 7 → a ≠ b → (TX0 a).2.1 ≠ (TX0 b).2.1 := by decide +kernel
theorem tyX0_ok : ∀ k, k < 7 → parseFieldDescriptor (TX0 k).2.2.1 = some (tyX0 k) := by decide +kernel
abbrev cX0_init : ByteArray := prog_2_method_1_code
def yX0_init : MethodName := ⟨RX0, "<init>", "()V"⟩
abbrev cX0_forget : ByteArray := prog_2_method_2_code
def yX0_forget : MethodName := ⟨RX0, "forget", "()V"⟩
abbrev cX0_follow : ByteArray := prog_2_method_3_code
def yX0_follow : MethodName := ⟨RX0, "follow", "(III)V"⟩
abbrev cX0_numberIn : ByteArray := prog_2_method_4_code
def yX0_numberIn : MethodName := ⟨RX0, "numberIn", "([I)I"⟩
abbrev cX0_findHeap : ByteArray := prog_2_method_5_code
def yX0_findHeap : MethodName := ⟨RX0, "findHeap", "([III)V"⟩
abbrev cX0_neighbour : ByteArray := prog_2_method_6_code
def yX0_neighbour : MethodName := ⟨RX0, "neighbour", "(II)I"⟩
abbrev cX0_heapWith : ByteArray := prog_2_method_7_code
def yX0_heapWith : MethodName := ⟨RX0, "heapWith", "(I)I"⟩
abbrev cX0_placeOf : ByteArray := prog_2_method_8_code
def yX0_placeOf : MethodName := ⟨RX0, "placeOf", "(I)I"⟩
abbrev cX0_heapAt : ByteArray := prog_2_method_9_code
def yX0_heapAt : MethodName := ⟨RX0, "heapAt", "(I)I"⟩
abbrev cX0_isGreatest : ByteArray := prog_2_method_10_code
def yX0_isGreatest : MethodName := ⟨RX0, "isGreatest", "(I)Z"⟩
abbrev cX0_mostChips : ByteArray := prog_2_method_11_code
def yX0_mostChips : MethodName := ⟨RX0, "mostChips", "([II)I"⟩
abbrev cX0_comesAhead : ByteArray := prog_2_method_12_code
def yX0_comesAhead : MethodName := ⟨RX0, "comesAhead", "(II)Z"⟩
def RX1 : String := "ChipPilers$History"
def TX1 : u_T := fun k => match k with
  | 0 => ("ChipPilers$History", "states", "[LChipPilers$State;", true)
  | _ => ("ChipPilers$History", "size", "I", false)
def tyX1 : Nat → FieldType := fun k => match k with
  | 0 => .array (.object "ChipPilers$State")
  | _ => .int
abbrev wsX10 : List Cond := u_ws RX1 TX1 2
theorem nmX1 : ∀ a, a < 2 → ∀ b, b < 2 → a ≠ b → (TX1 a).2.1 ≠ (TX1 b).2.1 := by decide +kernel
theorem tyX1_ok : ∀ k, k < 2 → parseFieldDescriptor (TX1 k).2.2.1 = some (tyX1 k) := by decide +kernel
abbrev cX1_init : ByteArray := prog_3_method_1_code
def yX1_init : MethodName := ⟨RX1, "<init>", "()V"⟩
abbrev cX1_record : ByteArray := prog_3_method_2_code
def yX1_record : MethodName := ⟨RX1, "record", "(LChipPilers$State;)V"⟩
abbrev cX1_takeLatest : ByteArray := prog_3_method_3_code
def yX1_takeLatest : MethodName := ⟨RX1, "takeLatest", "()LChipPilers$State;"⟩
abbrev cX1_dropOldest : ByteArray := prog_3_method_4_code
def yX1_dropOldest : MethodName := ⟨RX1, "dropOldest", "()V"⟩
abbrev cX1_stateAt : ByteArray := prog_3_method_5_code
def yX1_stateAt : MethodName := ⟨RX1, "stateAt", "(I)LChipPilers$State;"⟩
def RX2 : String := "ChipPilers$Plan"
def TX2 : u_T := fun k => match k with
  | 0 => ("ChipPilers$Plan", "text", "[C", true)
  | 1 => ("ChipPilers$Plan", "length", "I", false)
  | 2 => ("ChipPilers$Plan", "letters", "[C", true)
  | 3 => ("ChipPilers$Plan", "numbers", "[I", true)
  | 4 => ("ChipPilers$Plan", "orderCount", "I", false)
  | _ => ("ChipPilers$Plan", "walkerDue", "Z", false)
def tyX2 : Nat → FieldType := fun k => match k with
  | 0 => .array .char
  | 1 => .int
  | 2 => .array .char
  | 3 => .array .int
  | 4 => .int
  | _ => .boolean
abbrev wsX20 : List Cond := u_ws RX2 TX2 6
theorem nmX2 : ∀ a, a < 6 → ∀ b, b < 6 → a ≠ b → (TX2 a).2.1 ≠ (TX2 b).2.1 := by decide +kernel
theorem tyX2_ok : ∀ k, k < 6 → parseFieldDescriptor (TX2 k).2.2.1 = some (tyX2 k) := by decide +kernel
abbrev cX2_init : ByteArray := prog_4_method_1_code
def yX2_init : MethodName := ⟨RX2, "<init>", "()V"⟩
abbrev cX2_append : ByteArray := prog_4_method_2_code
def yX2_append : MethodName := ⟨RX2, "append", "(C)Z"⟩
abbrev cX2_readOrders : ByteArray := prog_4_method_3_code
def yX2_readOrders : MethodName := ⟨RX2, "readOrders", "(I)I"⟩
abbrev cX2_takes : ByteArray := prog_4_method_4_code
def yX2_takes : MethodName := ⟨RX2, "takes", "(CI)Z"⟩
abbrev cX2_takesWalker : ByteArray := prog_4_method_5_code
def yX2_takesWalker : MethodName := ⟨RX2, "takesWalker", "(II)Z"⟩
abbrev cX2_takesDigit : ByteArray := prog_4_method_6_code
def yX2_takesDigit : MethodName := ⟨RX2, "takesDigit", "(I)Z"⟩
abbrev cX2_takesLetter : ByteArray := prog_4_method_7_code
def yX2_takesLetter : MethodName := ⟨RX2, "takesLetter", "(CI)Z"⟩
abbrev cX2_isOrder : ByteArray := prog_4_method_8_code
def yX2_isOrder : MethodName := ⟨RX2, "isOrder", "(CI)Z"⟩
abbrev cX2_letterOf : ByteArray := prog_4_method_9_code
def yX2_letterOf : MethodName := ⟨RX2, "letterOf", "(I)C"⟩
abbrev cX2_numberOf : ByteArray := prog_4_method_10_code
def yX2_numberOf : MethodName := ⟨RX2, "numberOf", "(I)I"⟩
def RX3 : String := "ChipPilers$Slot"
def TX3 : u_T := fun k => match k with
  | 0 => ("ChipPilers$Slot", "snapshot", "LChipPilers$State;", true)
  | _ => ("ChipPilers$Slot", "taken", "Z", false)
def tyX3 : Nat → FieldType := fun k => match k with
  | 0 => .object "ChipPilers$State"
  | _ => .boolean
abbrev wsX30 : List Cond := u_ws RX3 TX3 2
theorem nmX3 : ∀ a, a < 2 → ∀ b, b < 2 → a ≠ b → (TX3 a).2.1 ≠ (TX3 b).2.1 := by decide +kernel
theorem tyX3_ok : ∀ k, k < 2 → parseFieldDescriptor (TX3 k).2.2.1 = some (tyX3 k) := by decide +kernel
abbrev cX3_init : ByteArray := prog_5_method_1_code
def yX3_init : MethodName := ⟨RX3, "<init>", "()V"⟩
def RX4 : String := "ChipPilers$State"
def TX4 : u_T := fun k => match k with
  | 0 => ("ChipPilers$State", "rows", "I", false)
  | 1 => ("ChipPilers$State", "columns", "I", false)
  | 2 => ("ChipPilers$State", "chips", "[I", true)
  | 3 => ("ChipPilers$State", "walkers", "[LChipPilers$Walker;", true)
  | 4 => ("ChipPilers$State", "walkerCount", "I", false)
  | 5 => ("ChipPilers$State", "turns", "LChipPilers$Turns;", true)
  | 6 => ("ChipPilers$State", "merges", "I", false)
  | _ => ("ChipPilers$State", "splits", "I", false)
def tyX4 : Nat → FieldType := fun k => match k with
  | 0 => .int
  | 1 => .int
  | 2 => .array .int
  | 3 => .array (.object "ChipPilers$Walker")
  | 4 => .int
  | 5 => .object "ChipPilers$Turns"
  | 6 => .int
  | _ => .int
abbrev wsX40 : List Cond := u_ws RX4 TX4 8
theorem nmX4 : ∀ a, a < 8 → ∀ b, b < 8 → a ≠ b → (TX4 a).2.1 ≠ (TX4 b).2.1 := by decide +kernel
theorem tyX4_ok : ∀ k, k < 8 → parseFieldDescriptor (TX4 k).2.2.1 = some (tyX4 k) := by decide +kernel
abbrev cX4_init : ByteArray := prog_6_method_1_code
def yX4_init : MethodName := ⟨RX4, "<init>", "()V"⟩
abbrev cX4_copyFrom : ByteArray := prog_6_method_2_code
def yX4_copyFrom : MethodName := ⟨RX4, "copyFrom", "(LChipPilers$State;)V"⟩
abbrev cX4_hasCell : ByteArray := prog_6_method_3_code
def yX4_hasCell : MethodName := ⟨RX4, "hasCell", "(II)Z"⟩
abbrev cX4_cellAt : ByteArray := prog_6_method_4_code
def yX4_cellAt : MethodName := ⟨RX4, "cellAt", "(II)I"⟩
abbrev cX4_chipsOf : ByteArray := prog_6_method_5_code
def yX4_chipsOf : MethodName := ⟨RX4, "chipsOf", "(I)I"⟩
abbrev cX4_walkerAt : ByteArray := prog_6_method_6_code
def yX4_walkerAt : MethodName := ⟨RX4, "walkerAt", "(I)LChipPilers$Walker;"⟩
abbrev cX4_allChips : ByteArray := prog_6_method_7_code
def yX4_allChips : MethodName := ⟨RX4, "allChips", "()I"⟩
abbrev cX4_allPockets : ByteArray := prog_6_method_8_code
def yX4_allPockets : MethodName := ⟨RX4, "allPockets", "()I"⟩
abbrev cX4_allSteps : ByteArray := prog_6_method_9_code
def yX4_allSteps : MethodName := ⟨RX4, "allSteps", "()I"⟩
def RX5 : String := "ChipPilers$Turns"
def TX5 : u_T := fun k => match k with
  | 0 => ("ChipPilers$Turns", "numbers", "[I", true)
  | 1 => ("ChipPilers$Turns", "size", "I", false)
  | 2 => ("ChipPilers$Turns", "place", "I", false)
  | _ => ("ChipPilers$Turns", "replaceable", "Z", false)
def tyX5 : Nat → FieldType := fun k => match k with
  | 0 => .array .int
  | 1 => .int
  | 2 => .int
  | _ => .boolean
abbrev wsX50 : List Cond := u_ws RX5 TX5 4
theorem nmX5 : ∀ a, a < 4 → ∀ b, b < 4 → a ≠ b → (TX5 a).2.1 ≠ (TX5 b).2.1 := by decide +kernel
theorem tyX5_ok : ∀ k, k < 4 → parseFieldDescriptor (TX5 k).2.2.1 = some (tyX5 k) := by decide +kernel
abbrev cX5_init : ByteArray := prog_7_method_1_code
def yX5_init : MethodName := ⟨RX5, "<init>", "()V"⟩
abbrev cX5_begin : ByteArray := prog_7_method_2_code
def yX5_begin : MethodName := ⟨RX5, "begin", "()V"⟩
abbrev cX5_append : ByteArray := prog_7_method_3_code
def yX5_append : MethodName := ⟨RX5, "append", "(I)V"⟩
abbrev cX5_takeNext : ByteArray := prog_7_method_4_code
def yX5_takeNext : MethodName := ⟨RX5, "takeNext", "()I"⟩
abbrev cX5_copyFrom : ByteArray := prog_7_method_5_code
def yX5_copyFrom : MethodName := ⟨RX5, "copyFrom", "(LChipPilers$Turns;)V"⟩
def RX6 : String := "ChipPilers$Walker"
def TX6 : u_T := fun k => match k with
  | 0 => ("ChipPilers$Walker", "row", "I", false)
  | 1 => ("ChipPilers$Walker", "column", "I", false)
  | 2 => ("ChipPilers$Walker", "direction", "I", false)
  | 3 => ("ChipPilers$Walker", "pocket", "I", false)
  | 4 => ("ChipPilers$Walker", "capacity", "I", false)
  | 5 => ("ChipPilers$Walker", "sort", "I", false)
  | 6 => ("ChipPilers$Walker", "steps", "I", false)
  | 7 => ("ChipPilers$Walker", "picked", "I", false)
  | _ => ("ChipPilers$Walker", "dropped", "I", false)
def tyX6 : Nat → FieldType := fun k => match k with
  | 0 => .int
  | 1 => .int
  | 2 => .int
  | 3 => .int
  | 4 => .int
  | 5 => .int
  | 6 => .int
  | 7 => .int
  | _ => .int
abbrev wsX60 : List Cond := u_ws RX6 TX6 9
theorem nmX6 : ∀ a, a < 9 → ∀ b, b < 9 → a ≠ b → (TX6 a).2.1 ≠ (TX6 b).2.1 := by decide +kernel
theorem tyX6_ok : ∀ k, k < 9 → parseFieldDescriptor (TX6 k).2.2.1 = some (tyX6 k) := by decide +kernel
abbrev cX6_init : ByteArray := prog_8_method_1_code
def yX6_init : MethodName := ⟨RX6, "<init>", "()V"⟩
abbrev cX6_begin : ByteArray := prog_8_method_2_code
def yX6_begin : MethodName := ⟨RX6, "begin", "(IIIII)V"⟩
abbrev cX6_cell : ByteArray := prog_8_method_3_code
def yX6_cell : MethodName := ⟨RX6, "cell", "()I"⟩
abbrev cX6_copyFrom : ByteArray := prog_8_method_4_code
def yX6_copyFrom : MethodName := ⟨RX6, "copyFrom", "(LChipPilers$Walker;)V"⟩
def RX7 : String := "ChipPilers$World"
def TX7 : u_T := fun k => match k with
  | 0 => ("ChipPilers$World", "state", "LChipPilers$State;", true)
  | _ => ("ChipPilers$World", "heaps", "LChipPilers$Heaps;", true)
def tyX7 : Nat → FieldType := fun k => match k with
  | 0 => .object "ChipPilers$State"
  | _ => .object "ChipPilers$Heaps"
abbrev wsX70 : List Cond := u_ws RX7 TX7 2
theorem nmX7 : ∀ a, a < 2 → ∀ b, b < 2 → a ≠ b → (TX7 a).2.1 ≠ (TX7 b).2.1 := by decide +kernel
theorem tyX7_ok : ∀ k, k < 2 → parseFieldDescriptor (TX7 k).2.2.1 = some (tyX7 k) := by decide +kernel
abbrev cX7_init : ByteArray := prog_9_method_1_code
def yX7_init : MethodName := ⟨RX7, "<init>", "()V"⟩
abbrev cX7_load : ByteArray := prog_9_method_2_code
def yX7_load : MethodName := ⟨RX7, "load", "(LChipPilers$State;)V"⟩
abbrev cX7_clearBoard : ByteArray := prog_9_method_3_code
def yX7_clearBoard : MethodName := ⟨RX7, "clearBoard", "(II)V"⟩
abbrev cX7_setChips : ByteArray := prog_9_method_4_code
def yX7_setChips : MethodName := ⟨RX7, "setChips", "(II)V"⟩
abbrev cX7_chipsUnder : ByteArray := prog_9_method_5_code
def yX7_chipsUnder : MethodName := ⟨RX7, "chipsUnder", "(LChipPilers$Walker;)I"⟩
abbrev cX7_strewOver : ByteArray := prog_9_method_6_code
def yX7_strewOver : MethodName := ⟨RX7, "strewOver", "(IIIZ)I"⟩
abbrev cX7_pickUp : ByteArray := prog_9_method_7_code
def yX7_pickUp : MethodName := ⟨RX7, "pickUp", "(LChipPilers$Walker;I)V"⟩
abbrev cX7_makeRounds : ByteArray := prog_9_method_8_code
def yX7_makeRounds : MethodName := ⟨RX7, "makeRounds", "(I)V"⟩
abbrev cX7_makeStep : ByteArray := prog_9_method_9_code
def yX7_makeStep : MethodName := ⟨RX7, "makeStep", "(LChipPilers$Walker;)V"⟩
abbrev cX7_obey : ByteArray := prog_9_method_10_code
def yX7_obey : MethodName := ⟨RX7, "obey", "(LChipPilers$Walker;CI)V"⟩
abbrev cX7_stepAhead : ByteArray := prog_9_method_11_code
def yX7_stepAhead : MethodName := ⟨RX7, "stepAhead", "(LChipPilers$Walker;I)V"⟩
abbrev cX7_pickedBySort : ByteArray := prog_9_method_12_code
def yX7_pickedBySort : MethodName := ⟨RX7, "pickedBySort", "(LChipPilers$Walker;)I"⟩
abbrev cX7_hasWall : ByteArray := prog_9_method_13_code
def yX7_hasWall : MethodName := ⟨RX7, "hasWall", "(LChipPilers$Walker;I)Z"⟩
abbrev cX7_rowAhead : ByteArray := prog_9_method_14_code
def yX7_rowAhead : MethodName := ⟨RX7, "rowAhead", "(LChipPilers$Walker;I)I"⟩
abbrev cX7_columnAhead : ByteArray := prog_9_method_15_code
def yX7_columnAhead : MethodName := ⟨RX7, "columnAhead", "(LChipPilers$Walker;I)I"⟩
abbrev cX7_toTheRight : ByteArray := prog_9_method_16_code
def yX7_toTheRight : MethodName := ⟨RX7, "toTheRight", "(II)I"⟩
abbrev cX7_turned : ByteArray := prog_9_method_17_code
def yX7_turned : MethodName := ⟨RX7, "turned", "(II)I"⟩
abbrev cX7_directionOf : ByteArray := prog_9_method_18_code
def yX7_directionOf : MethodName := ⟨RX7, "directionOf", "(C)I"⟩
def RX8 : String := "ChipPilers"
def TX8 : u_T := fun k => match k with
  | 0 => ("ChipPilers", "world", "LChipPilers$World;", true)
  | 1 => ("ChipPilers", "history", "LChipPilers$History;", true)
  | 2 => ("ChipPilers", "plan", "LChipPilers$Plan;", true)
  | 3 => ("ChipPilers", "slots", "[LChipPilers$Slot;", true)
  | _ => ("ChipPilers", "aside", "LChipPilers$State;", true)
def tyX8 : Nat → FieldType := fun k => match k with
  | 0 => .object "ChipPilers$World"
  | 1 => .object "ChipPilers$History"
  | 2 => .object "ChipPilers$Plan"
  | 3 => .array (.object "ChipPilers$Slot")
  | _ => .object "ChipPilers$State"
abbrev wsX80 : List Cond := u_ws RX8 TX8 5
theorem nmX8 : ∀ a, a < 5 → ∀ b, b < 5 → a ≠ b → (TX8 a).2.1 ≠ (TX8 b).2.1 := by decide +kernel
theorem tyX8_ok : ∀ k, k < 5 → parseFieldDescriptor (TX8 k).2.2.1 = some (tyX8 k) := by decide +kernel
abbrev cX8_init : ByteArray := prog_1_method_1_code
def yX8_init : MethodName := ⟨RX8, "<init>", "()V"⟩
abbrev cX8_reset : ByteArray := prog_1_method_2_code
def yX8_reset : MethodName := ⟨RX8, "reset", "(II)I"⟩
abbrev cX8_put : ByteArray := prog_1_method_3_code
def yX8_put : MethodName := ⟨RX8, "put", "(III)I"⟩
abbrev cX8_strew : ByteArray := prog_1_method_4_code
def yX8_strew : MethodName := ⟨RX8, "strew", "(III)I"⟩
abbrev cX8_addWalker : ByteArray := prog_1_method_5_code
def yX8_addWalker : MethodName := ⟨RX8, "addWalker", "(IIIII)I"⟩
abbrev cX8_setSort : ByteArray := prog_1_method_6_code
def yX8_setSort : MethodName := ⟨RX8, "setSort", "(II)I"⟩
abbrev cX8_empty : ByteArray := prog_1_method_7_code
def yX8_empty : MethodName := ⟨RX8, "empty", "(I)I"⟩
abbrev cX8_addTurn : ByteArray := prog_1_method_8_code
def yX8_addTurn : MethodName := ⟨RX8, "addTurn", "(I)I"⟩
abbrev cX8_clearTurns : ByteArray := prog_1_method_9_code
def yX8_clearTurns : MethodName := ⟨RX8, "clearTurns", "()I"⟩
abbrev cX8_walk : ByteArray := prog_1_method_10_code
def yX8_walk : MethodName := ⟨RX8, "walk", "(II)I"⟩
abbrev cX8_rounds : ByteArray := prog_1_method_11_code
def yX8_rounds : MethodName := ⟨RX8, "rounds", "(I)I"⟩
abbrev cX8_type : ByteArray := prog_1_method_12_code
def yX8_type : MethodName := ⟨RX8, "type", "(C)I"⟩
abbrev cX8_clearText : ByteArray := prog_1_method_13_code
def yX8_clearText : MethodName := ⟨RX8, "clearText", "()I"⟩
abbrev cX8_run : ByteArray := prog_1_method_14_code
def yX8_run : MethodName := ⟨RX8, "run", "()I"⟩
abbrev cX8_undo : ByteArray := prog_1_method_15_code
def yX8_undo : MethodName := ⟨RX8, "undo", "()I"⟩
abbrev cX8_keep : ByteArray := prog_1_method_16_code
def yX8_keep : MethodName := ⟨RX8, "keep", "(I)I"⟩
abbrev cX8_restore : ByteArray := prog_1_method_17_code
def yX8_restore : MethodName := ⟨RX8, "restore", "(I)I"⟩
abbrev cX8_chips : ByteArray := prog_1_method_18_code
def yX8_chips : MethodName := ⟨RX8, "chips", "(II)I"⟩
abbrev cX8_walker : ByteArray := prog_1_method_19_code
def yX8_walker : MethodName := ⟨RX8, "walker", "(II)I"⟩
abbrev cX8_heap : ByteArray := prog_1_method_20_code
def yX8_heap : MethodName := ⟨RX8, "heap", "(II)I"⟩
abbrev cX8_heapOf : ByteArray := prog_1_method_21_code
def yX8_heapOf : MethodName := ⟨RX8, "heapOf", "(II)I"⟩
abbrev cX8_roundsUntil : ByteArray := prog_1_method_22_code
def yX8_roundsUntil : MethodName := ⟨RX8, "roundsUntil", "(I)I"⟩
abbrev cX8_turn : ByteArray := prog_1_method_23_code
def yX8_turn : MethodName := ⟨RX8, "turn", "(I)I"⟩
abbrev cX8_count : ByteArray := prog_1_method_24_code
def yX8_count : MethodName := ⟨RX8, "count", "(I)I"⟩
abbrev cX8_isBetween : ByteArray := prog_1_method_25_code
def yX8_isBetween : MethodName := ⟨RX8, "isBetween", "(III)Z"⟩
abbrev cX8_isSort : ByteArray := prog_1_method_26_code
def yX8_isSort : MethodName := ⟨RX8, "isSort", "(I)Z"⟩
abbrev cX8_slotAt : ByteArray := prog_1_method_27_code
def yX8_slotAt : MethodName := ⟨RX8, "slotAt", "(I)LChipPilers$Slot;"⟩
def RX9 : String := "ChipPilersModel"
def TX9 : u_T := fun k => match k with
  | 0 => ("ChipPilersModel", "row", "[I", true)
  | 1 => ("ChipPilersModel", "scratch", "[I", true)
  | 2 => ("ChipPilersModel", "history", "[I", true)
  | 3 => ("ChipPilersModel", "kept", "I", false)
  | 4 => ("ChipPilersModel", "slots", "[I", true)
  | 5 => ("ChipPilersModel", "isKept", "[Z", true)
  | 6 => ("ChipPilersModel", "heapOfCell", "[I", true)
  | 7 => ("ChipPilersModel", "heaps", "I", false)
  | 8 => ("ChipPilersModel", "sizeOf", "[I", true)
  | 9 => ("ChipPilersModel", "cellsOf", "[I", true)
  | 10 => ("ChipPilersModel", "firstOf", "[I", true)
  | 11 => ("ChipPilersModel", "mostOf", "[I", true)
  | 12 => ("ChipPilersModel", "stack", "[I", true)
  | 13 => ("ChipPilersModel", "typed", "I", false)
  | 14 => ("ChipPilersModel", "text", "[C", true)
  | 15 => ("ChipPilersModel", "orders", "I", false)
  | 16 => ("ChipPilersModel", "letterOf", "[C", true)
  | _ => ("ChipPilersModel", "numberOf", "[I", true)
def tyX9 : Nat → FieldType := fun k => match k with
  | 0 => .array .int
  | 1 => .array .int
  | 2 => .array .int
  | 3 => .int
  | 4 => .array .int
  | 5 => .array .boolean
  | 6 => .array .int
  | 7 => .int
  | 8 => .array .int
  | 9 => .array .int
  | 10 => .array .int
  | 11 => .array .int
  | 12 => .array .int
  | 13 => .int
  | 14 => .array .char
  | 15 => .int
  | 16 => .array .char
  | _ => .array .int
abbrev wsX90 : List Cond := u_ws RX9 TX9 18
theorem nmX9 : ∀ a, a < 18 → ∀ b, b < 18 → a ≠ b → (TX9 a).2.1 ≠ (TX9 b).2.1 := by decide +kernel
theorem tyX9_ok : ∀ k, k < 18 → parseFieldDescriptor (TX9 k).2.2.1 = some (tyX9 k) := by decide +kernel
abbrev cX9_init : ByteArray := prog_11_method_1_code
def yX9_init : MethodName := ⟨RX9, "<init>", "()V"⟩
abbrev cX9_in : ByteArray := prog_11_method_2_code
def yX9_in : MethodName := ⟨RX9, "in", "(III)Z"⟩
abbrev cX9_lesser : ByteArray := prog_11_method_3_code
def yX9_lesser : MethodName := ⟨RX9, "lesser", "(II)I"⟩
abbrev cX9_begin : ByteArray := prog_11_method_4_code
def yX9_begin : MethodName := ⟨RX9, "begin", "()V"⟩
abbrev cX9_goBack : ByteArray := prog_11_method_5_code
def yX9_goBack : MethodName := ⟨RX9, "goBack", "()V"⟩
abbrev cX9_done : ByteArray := prog_11_method_6_code
def yX9_done : MethodName := ⟨RX9, "done", "(I)I"⟩
abbrev cX9_undo : ByteArray := prog_11_method_7_code
def yX9_undo : MethodName := ⟨RX9, "undo", "()I"⟩
abbrev cX9_allChips : ByteArray := prog_11_method_8_code
def yX9_allChips : MethodName := ⟨RX9, "allChips", "()I"⟩
abbrev cX9_keep : ByteArray := prog_11_method_9_code
def yX9_keep : MethodName := ⟨RX9, "keep", "(I)I"⟩
abbrev cX9_restore : ByteArray := prog_11_method_10_code
def yX9_restore : MethodName := ⟨RX9, "restore", "(I)I"⟩
abbrev cX9_isCell : ByteArray := prog_11_method_11_code
def yX9_isCell : MethodName := ⟨RX9, "isCell", "(II)Z"⟩
abbrev cX9_of : ByteArray := prog_11_method_12_code
def yX9_of : MethodName := ⟨RX9, "of", "(II)I"⟩
abbrev cX9_lay : ByteArray := prog_11_method_13_code
def yX9_lay : MethodName := ⟨RX9, "lay", "(III)V"⟩
abbrev cX9_noWalker : ByteArray := prog_11_method_14_code
def yX9_noWalker : MethodName := ⟨RX9, "noWalker", "(I)Z"⟩
abbrev cX9_reset : ByteArray := prog_11_method_15_code
def yX9_reset : MethodName := ⟨RX9, "reset", "(II)I"⟩
abbrev cX9_put : ByteArray := prog_11_method_16_code
def yX9_put : MethodName := ⟨RX9, "put", "(III)I"⟩
abbrev cX9_strew : ByteArray := prog_11_method_17_code
def yX9_strew : MethodName := ⟨RX9, "strew", "(III)I"⟩
abbrev cX9_stepped : ByteArray := prog_11_method_18_code
def yX9_stepped : MethodName := ⟨RX9, "stepped", "(II)I"⟩
abbrev cX9_spread : ByteArray := prog_11_method_19_code
def yX9_spread : MethodName := ⟨RX9, "spread", "(I)V"⟩
abbrev cX9_findHeaps : ByteArray := prog_11_method_20_code
def yX9_findHeaps : MethodName := ⟨RX9, "findHeaps", "()V"⟩
abbrev cX9_isAhead : ByteArray := prog_11_method_21_code
def yX9_isAhead : MethodName := ⟨RX9, "isAhead", "(II)Z"⟩
abbrev cX9_placeOf : ByteArray := prog_11_method_22_code
def yX9_placeOf : MethodName := ⟨RX9, "placeOf", "(I)I"⟩
abbrev cX9_addWalker : ByteArray := prog_11_method_23_code
def yX9_addWalker : MethodName := ⟨RX9, "addWalker", "(IIIII)I"⟩
abbrev cX9_setSort : ByteArray := prog_11_method_24_code
def yX9_setSort : MethodName := ⟨RX9, "setSort", "(II)I"⟩
abbrev cX9_cellOf : ByteArray := prog_11_method_25_code
def yX9_cellOf : MethodName := ⟨RX9, "cellOf", "(I)I"⟩
abbrev cX9_pick : ByteArray := prog_11_method_26_code
def yX9_pick : MethodName := ⟨RX9, "pick", "(II)V"⟩
abbrev cX9_drop : ByteArray := prog_11_method_27_code
def yX9_drop : MethodName := ⟨RX9, "drop", "(II)V"⟩
abbrev cX9_empty : ByteArray := prog_11_method_28_code
def yX9_empty : MethodName := ⟨RX9, "empty", "(I)I"⟩
abbrev cX9_addTurn : ByteArray := prog_11_method_29_code
def yX9_addTurn : MethodName := ⟨RX9, "addTurn", "(I)I"⟩
abbrev cX9_clearTurns : ByteArray := prog_11_method_30_code
def yX9_clearTurns : MethodName := ⟨RX9, "clearTurns", "()I"⟩
abbrev cX9_nextTurn : ByteArray := prog_11_method_31_code
def yX9_nextTurn : MethodName := ⟨RX9, "nextTurn", "()I"⟩
abbrev cX9_actBySort : ByteArray := prog_11_method_32_code
def yX9_actBySort : MethodName := ⟨RX9, "actBySort", "(I)V"⟩
abbrev cX9_goAhead : ByteArray := prog_11_method_33_code
def yX9_goAhead : MethodName := ⟨RX9, "goAhead", "(I)V"⟩
abbrev cX9_step : ByteArray := prog_11_method_34_code
def yX9_step : MethodName := ⟨RX9, "step", "(I)V"⟩
abbrev cX9_oneRound : ByteArray := prog_11_method_35_code
def yX9_oneRound : MethodName := ⟨RX9, "oneRound", "()V"⟩
abbrev cX9_walk : ByteArray := prog_11_method_36_code
def yX9_walk : MethodName := ⟨RX9, "walk", "(II)I"⟩
abbrev cX9_rounds : ByteArray := prog_11_method_37_code
def yX9_rounds : MethodName := ⟨RX9, "rounds", "(I)I"⟩
abbrev cX9_roundsUntil : ByteArray := prog_11_method_38_code
def yX9_roundsUntil : MethodName := ⟨RX9, "roundsUntil", "(I)I"⟩
abbrev cX9_type : ByteArray := prog_11_method_39_code
def yX9_type : MethodName := ⟨RX9, "type", "(C)I"⟩
abbrev cX9_clearText : ByteArray := prog_11_method_40_code
def yX9_clearText : MethodName := ⟨RX9, "clearText", "()I"⟩
abbrev cX9_directionOf : ByteArray := prog_11_method_41_code
def yX9_directionOf : MethodName := ⟨RX9, "directionOf", "(C)I"⟩
abbrev cX9_isLetter : ByteArray := prog_11_method_42_code
def yX9_isLetter : MethodName := ⟨RX9, "isLetter", "(C)Z"⟩
abbrev cX9_isDigit : ByteArray := prog_11_method_43_code
def yX9_isDigit : MethodName := ⟨RX9, "isDigit", "(I)Z"⟩
abbrev cX9_readPlan : ByteArray := prog_11_method_44_code
def yX9_readPlan : MethodName := ⟨RX9, "readPlan", "()I"⟩
abbrev cX9_carryOut : ByteArray := prog_11_method_45_code
def yX9_carryOut : MethodName := ⟨RX9, "carryOut", "(ICI)V"⟩
abbrev cX9_run : ByteArray := prog_11_method_46_code
def yX9_run : MethodName := ⟨RX9, "run", "()I"⟩
abbrev cX9_chips : ByteArray := prog_11_method_47_code
def yX9_chips : MethodName := ⟨RX9, "chips", "(II)I"⟩
abbrev cX9_walker : ByteArray := prog_11_method_48_code
def yX9_walker : MethodName := ⟨RX9, "walker", "(II)I"⟩
abbrev cX9_heap : ByteArray := prog_11_method_49_code
def yX9_heap : MethodName := ⟨RX9, "heap", "(II)I"⟩
abbrev cX9_heapOf : ByteArray := prog_11_method_50_code
def yX9_heapOf : MethodName := ⟨RX9, "heapOf", "(II)I"⟩
abbrev cX9_turn : ByteArray := prog_11_method_51_code
def yX9_turn : MethodName := ⟨RX9, "turn", "(I)I"⟩
abbrev cX9_pocketed : ByteArray := prog_11_method_52_code
def yX9_pocketed : MethodName := ⟨RX9, "pocketed", "()I"⟩
abbrev cX9_count : ByteArray := prog_11_method_53_code
def yX9_count : MethodName := ⟨RX9, "count", "(I)I"⟩
def RJ9 : String := "java/lang/Math"
def TJ9 : u_T := fun k => match k with
  | _ => ("", "", "", false)
def tyJ9 : Nat → FieldType := fun k => match k with
  | _ => .int
abbrev wsJ90 : List Cond := u_ws RJ9 TJ9 0
theorem nmJ9 : ∀ a, a < 0 → ∀ b, b < 0 → a ≠ b → (TJ9 a).2.1 ≠ (TJ9 b).2.1 := by decide +kernel
theorem tyJ9_ok : ∀ k, k < 0 → parseFieldDescriptor (TJ9 k).2.2.1 = some (tyJ9 k) := by decide +kernel
abbrev cJ9_max_7cf53 : ByteArray := prog_12_method_65_code
def yJ9_max_7cf53 : MethodName := ⟨RJ9, "max", "(II)I"⟩
abbrev cJ9_min_7cf53 : ByteArray := prog_12_method_69_code
def yJ9_min_7cf53 : MethodName := ⟨RJ9, "min", "(II)I"⟩
def RJ10 : String := "java/lang/System"
def TJ10 : u_T := fun k => match k with
  | _ => ("", "", "", false)
def tyJ10 : Nat → FieldType := fun k => match k with
  | _ => .int
abbrev wsJ100 : List Cond := u_ws RJ10 TJ10 0
theorem nmJ10 : ∀ a, a < 0 → ∀ b, b < 0 → a ≠ b → (TJ10 a).2.1 ≠ (TJ10 b).2.1 := by decide +kernel
theorem tyJ10_ok : ∀ k, k < 0 → parseFieldDescriptor (TJ10 k).2.2.1 = some (tyJ10 k) := by decide +kernel
def RJ7 : String := "java/util/Arrays"
def TJ7 : u_T := fun k => match k with
  | _ => ("", "", "", false)
def tyJ7 : Nat → FieldType := fun k => match k with
  | _ => .int
abbrev wsJ70 : List Cond := u_ws RJ7 TJ7 0
theorem nmJ7 : ∀ a, a < 0 → ∀ b, b < 0 → a ≠ b → (TJ7 a).2.1 ≠ (TJ7 b).2.1 := by decide +kernel
theorem tyJ7_ok : ∀ k, k < 0 → parseFieldDescriptor (TJ7 k).2.2.1 = some (tyJ7 k) := by decide +kernel
abbrev cJ7_fill_53178 : ByteArray := prog_14_method_103_code
def yJ7_fill_53178 : MethodName := ⟨RJ7, "fill", "([II)V"⟩
def RL : String := "ChipPilersLaw"
abbrev cL_law : ByteArray := code
def yL_law : MethodName := ⟨RL, "law", "([I)Z"⟩
abbrev vwCl : List vw_C := [(RX0, TX0, 7), (RX1, TX1, 2), (RX2, TX2, 6), (RX3, TX3, 2), (RX4, TX4, 8), (RX5, TX5, 4), (RX6, TX6, 9), (RX7, TX7, 2), (RX8, TX8, 5), (RX9, TX9, 18)]
end
section
theorem dX0_init_0 : decode cX0_init 0 = .ok (.aload_n 0, 1) := by decide +kernel
theorem dX0_init_1 : decode cX0_init 1 = .ok (.invokespecial 3, 3) := by decide +kernel
theorem dX0_init_4 : decode cX0_init 4 = .ok (.aload_n 0, 1) := by decide +kernel
theorem dX0_init_5 : decode cX0_init 5 = .ok (.sipush 128, 3) := by decide +kernel
theorem dX0_init_8 : decode cX0_init 8 = .ok (.newarray .int, 2) := by decide +kernel
theorem dX0_init_10 : decode cX0_init 10 = .ok (.putfield 9, 3) := by decide +kernel
theorem dX0_init_13 : decode cX0_init 13 = .ok (.aload_n 0, 1) := by decide +kernel
theorem dX0_init_14 : decode cX0_init 14 = .ok (.sipush 128, 3) := by decide +kernel
theorem dX0_init_17 : decode cX0_init 17 = .ok (.newarray .int, 2) := by decide +kernel
theorem dX0_init_19 : decode cX0_init 19 = .ok (.putfield 15, 3) := by decide +kernel
theorem dX0_init_22 : decode cX0_init 22 = .ok (.aload_n 0, 1) := by decide +kernel
theorem dX0_init_23 : decode cX0_init 23 = .ok (.sipush 128, 3) := by decide +kernel
theorem dX0_init_26 : decode cX0_init 26 = .ok (.newarray .int, 2) := by decide +kernel
theorem dX0_init_28 : decode cX0_init 28 = .ok (.putfield 18, 3) := by decide +kernel
theorem dX0_init_31 : decode cX0_init 31 = .ok (.aload_n 0, 1) := by decide +kernel
theorem dX0_init_32 : decode cX0_init 32 = .ok (.sipush 256, 3) := by decide +kernel
theorem dX0_init_35 : decode cX0_init 35 = .ok (.newarray .int, 2) := by decide +kernel
theorem dX0_init_37 : decode cX0_init 37 = .ok (.putfield 21, 3) := by decide +kernel
theorem dX0_init_40 : decode cX0_init 40 = .ok (.aload_n 0, 1) := by decide +kernel
theorem dX0_init_41 : decode cX0_init 41 = .ok (.sipush 256, 3) := by decide +kernel
theorem dX0_init_44 : decode cX0_init 44 = .ok (.newarray .int, 2) := by decide +kernel
theorem dX0_init_46 : decode cX0_init 46 = .ok (.putfield 24, 3) := by decide +kernel
theorem dX0_init_49 : decode cX0_init 49 = .ok (.aload_n 0, 1) := by decide +kernel
theorem dX0_init_50 : decode cX0_init 50 = .ok (.iconst 0, 1) := by decide +kernel
theorem dX0_init_51 : decode cX0_init 51 = .ok (.putfield 27, 3) := by decide +kernel
theorem dX0_init_54 : decode cX0_init 54 = .ok (.aload_n 0, 1) := by decide +kernel
theorem dX0_init_55 : decode cX0_init 55 = .ok (.iconst 1, 1) := by decide +kernel
theorem dX0_init_56 : decode cX0_init 56 = .ok (.putfield 31, 3) := by decide +kernel
theorem dX0_init_59 : decode cX0_init 59 = .ok (.return_, 1) := by decide +kernel
theorem dX0_forget_0 : decode cX0_forget 0 = .ok (.aload_n 0, 1) := by decide +kernel
theorem dX0_forget_1 : decode cX0_forget 1 = .ok (.iconst 1, 1) := by decide +kernel
theorem dX0_forget_2 : decode cX0_forget 2 = .ok (.putfield 31, 3) := by decide +kernel
theorem dX0_forget_5 : decode cX0_forget 5 = .ok (.return_, 1) := by decide +kernel
theorem dX0_follow_0 : decode cX0_follow 0 = .ok (.iload_n 2, 1) := by decide +kernel
theorem dX0_follow_1 : decode cX0_follow 1 = .ok (.ifCond .ne 7, 3) := by decide +kernel
theorem dX0_follow_4 : decode cX0_follow 4 = .ok (.iconst 1, 1) := by decide +kernel
theorem dX0_follow_5 : decode cX0_follow 5 = .ok (.goto 4, 3) := by decide +kernel
theorem dX0_follow_8 : decode cX0_follow 8 = .ok (.iconst 0, 1) := by decide +kernel
theorem dX0_follow_9 : decode cX0_follow 9 = .ok (.iload_n 3, 1) := by decide +kernel
theorem dX0_follow_10 : decode cX0_follow 10 = .ok (.ifCond .ne 7, 3) := by decide +kernel
theorem dX0_follow_13 : decode cX0_follow 13 = .ok (.iconst 1, 1) := by decide +kernel
theorem dX0_follow_14 : decode cX0_follow 14 = .ok (.goto 4, 3) := by decide +kernel
theorem dX0_follow_17 : decode cX0_follow 17 = .ok (.iconst 0, 1) := by decide +kernel
theorem dX0_follow_18 : decode cX0_follow 18 = .ok (.if_icmp .eq 8, 3) := by decide +kernel
theorem dX0_follow_21 : decode cX0_follow 21 = .ok (.aload_n 0, 1) := by decide +kernel
theorem dX0_follow_22 : decode cX0_follow 22 = .ok (.iconst 1, 1) := by decide +kernel
theorem dX0_follow_23 : decode cX0_follow 23 = .ok (.putfield 31, 3) := by decide +kernel
theorem dX0_follow_26 : decode cX0_follow 26 = .ok (.aload_n 0, 1) := by decide +kernel
theorem dX0_follow_27 : decode cX0_follow 27 = .ok (.getfield 31, 3) := by decide +kernel
theorem dX0_follow_30 : decode cX0_follow 30 = .ok (.ifCond .ne 14, 3) := by decide +kernel
theorem dX0_follow_33 : decode cX0_follow 33 = .ok (.iload_n 1, 1) := by decide +kernel
theorem dX0_follow_34 : decode cX0_follow 34 = .ok (.ifCond .lt 10, 3) := by decide +kernel
theorem dX0_follow_37 : decode cX0_follow 37 = .ok (.iload_n 1, 1) := by decide +kernel
theorem dX0_follow_38 : decode cX0_follow 38 = .ok (.sipush 256, 3) := by decide +kernel
theorem dX0_follow_41 : decode cX0_follow 41 = .ok (.if_icmp .lt 4, 3) := by decide +kernel
theorem dX0_follow_44 : decode cX0_follow 44 = .ok (.return_, 1) := by decide +kernel
theorem dX0_follow_45 : decode cX0_follow 45 = .ok (.aload_n 0, 1) := by decide +kernel
theorem dX0_follow_46 : decode cX0_follow 46 = .ok (.getfield 21, 3) := by decide +kernel
theorem dX0_follow_49 : decode cX0_follow 49 = .ok (.iload_n 1, 1) := by decide +kernel
theorem dX0_follow_50 : decode cX0_follow 50 = .ok (.iaload, 1) := by decide +kernel
theorem dX0_follow_51 : decode cX0_follow 51 = .ok (.istore 4, 2) := by decide +kernel
theorem dX0_follow_53 : decode cX0_follow 53 = .ok (.iload 4, 2) := by decide +kernel
theorem dX0_follow_55 : decode cX0_follow 55 = .ok (.ifCond .lt 24, 3) := by decide +kernel
theorem dX0_follow_58 : decode cX0_follow 58 = .ok (.iload 4, 2) := by decide +kernel
theorem dX0_follow_60 : decode cX0_follow 60 = .ok (.sipush 128, 3) := by decide +kernel
theorem dX0_follow_63 : decode cX0_follow 63 = .ok (.if_icmp .ge 16, 3) := by decide +kernel
theorem dX0_follow_66 : decode cX0_follow 66 = .ok (.aload_n 0, 1) := by decide +kernel
theorem dX0_follow_67 : decode cX0_follow 67 = .ok (.getfield 9, 3) := by decide +kernel
theorem dX0_follow_70 : decode cX0_follow 70 = .ok (.iload 4, 2) := by decide +kernel
theorem dX0_follow_72 : decode cX0_follow 72 = .ok (.dup2, 1) := by decide +kernel
theorem dX0_follow_73 : decode cX0_follow 73 = .ok (.iaload, 1) := by decide +kernel
theorem dX0_follow_74 : decode cX0_follow 74 = .ok (.iload_n 3, 1) := by decide +kernel
theorem dX0_follow_75 : decode cX0_follow 75 = .ok (.iload_n 2, 1) := by decide +kernel
theorem dX0_follow_76 : decode cX0_follow 76 = .ok (.isub, 1) := by decide +kernel
theorem dX0_follow_77 : decode cX0_follow 77 = .ok (.iadd, 1) := by decide +kernel
theorem dX0_follow_78 : decode cX0_follow 78 = .ok (.iastore, 1) := by decide +kernel
theorem dX0_follow_79 : decode cX0_follow 79 = .ok (.return_, 1) := by decide +kernel
theorem dX0_numberIn_0 : decode cX0_numberIn 0 = .ok (.aload_n 0, 1) := by decide +kernel
theorem dX0_numberIn_1 : decode cX0_numberIn 1 = .ok (.getfield 31, 3) := by decide +kernel
theorem dX0_numberIn_4 : decode cX0_numberIn 4 = .ok (.ifCond .ne 8, 3) := by decide +kernel
theorem dX0_numberIn_7 : decode cX0_numberIn 7 = .ok (.aload_n 0, 1) := by decide +kernel
theorem dX0_numberIn_8 : decode cX0_numberIn 8 = .ok (.getfield 27, 3) := by decide +kernel
theorem dX0_numberIn_11 : decode cX0_numberIn 11 = .ok (.ireturn, 1) := by decide +kernel
theorem dX0_numberIn_12 : decode cX0_numberIn 12 = .ok (.aload_n 0, 1) := by decide +kernel
theorem dX0_numberIn_13 : decode cX0_numberIn 13 = .ok (.getfield 21, 3) := by decide +kernel
theorem dX0_numberIn_16 : decode cX0_numberIn 16 = .ok (.iconst (-1), 1) := by decide +kernel
theorem dX0_numberIn_17 : decode cX0_numberIn 17 = .ok (.invokestatic 35, 3) := by decide +kernel
theorem dX0_numberIn_20 : decode cX0_numberIn 20 = .ok (.aload_n 0, 1) := by decide +kernel
theorem dX0_numberIn_21 : decode cX0_numberIn 21 = .ok (.iconst 0, 1) := by decide +kernel
theorem dX0_numberIn_22 : decode cX0_numberIn 22 = .ok (.putfield 27, 3) := by decide +kernel
theorem dX0_numberIn_25 : decode cX0_numberIn 25 = .ok (.iconst 0, 1) := by decide +kernel
theorem dX0_numberIn_26 : decode cX0_numberIn 26 = .ok (.istore_n 2, 1) := by decide +kernel
theorem dX0_numberIn_27 : decode cX0_numberIn 27 = .ok (.iload_n 2, 1) := by decide +kernel
theorem dX0_numberIn_28 : decode cX0_numberIn 28 = .ok (.sipush 256, 3) := by decide +kernel
theorem dX0_numberIn_31 : decode cX0_numberIn 31 = .ok (.if_icmp .ge 60, 3) := by decide +kernel
theorem dX0_numberIn_34 : decode cX0_numberIn 34 = .ok (.iload_n 2, 1) := by decide +kernel
theorem dX0_numberIn_35 : decode cX0_numberIn 35 = .ok (.aload_n 1, 1) := by decide +kernel
theorem dX0_numberIn_36 : decode cX0_numberIn 36 = .ok (.arraylength, 1) := by decide +kernel
theorem dX0_numberIn_37 : decode cX0_numberIn 37 = .ok (.if_icmp .ge 54, 3) := by decide +kernel
theorem dX0_numberIn_40 : decode cX0_numberIn 40 = .ok (.aload_n 1, 1) := by decide +kernel
theorem dX0_numberIn_41 : decode cX0_numberIn 41 = .ok (.iload_n 2, 1) := by decide +kernel
theorem dX0_numberIn_42 : decode cX0_numberIn 42 = .ok (.iaload, 1) := by decide +kernel
theorem dX0_numberIn_43 : decode cX0_numberIn 43 = .ok (.ifCond .le 42, 3) := by decide +kernel
theorem dX0_numberIn_46 : decode cX0_numberIn 46 = .ok (.aload_n 0, 1) := by decide +kernel
theorem dX0_numberIn_47 : decode cX0_numberIn 47 = .ok (.getfield 21, 3) := by decide +kernel
theorem dX0_numberIn_50 : decode cX0_numberIn 50 = .ok (.iload_n 2, 1) := by decide +kernel
theorem dX0_numberIn_51 : decode cX0_numberIn 51 = .ok (.iaload, 1) := by decide +kernel
theorem dX0_numberIn_52 : decode cX0_numberIn 52 = .ok (.ifCond .ge 33, 3) := by decide +kernel
theorem dX0_numberIn_55 : decode cX0_numberIn 55 = .ok (.aload_n 0, 1) := by decide +kernel
theorem dX0_numberIn_56 : decode cX0_numberIn 56 = .ok (.getfield 27, 3) := by decide +kernel
theorem dX0_numberIn_59 : decode cX0_numberIn 59 = .ok (.sipush 128, 3) := by decide +kernel
theorem dX0_numberIn_62 : decode cX0_numberIn 62 = .ok (.if_icmp .ge 23, 3) := by decide +kernel
theorem dX0_numberIn_65 : decode cX0_numberIn 65 = .ok (.aload_n 0, 1) := by decide +kernel
theorem dX0_numberIn_66 : decode cX0_numberIn 66 = .ok (.aload_n 1, 1) := by decide +kernel
theorem dX0_numberIn_67 : decode cX0_numberIn 67 = .ok (.iload_n 2, 1) := by decide +kernel
theorem dX0_numberIn_68 : decode cX0_numberIn 68 = .ok (.aload_n 0, 1) := by decide +kernel
theorem dX0_numberIn_69 : decode cX0_numberIn 69 = .ok (.getfield 27, 3) := by decide +kernel
theorem dX0_numberIn_72 : decode cX0_numberIn 72 = .ok (.invokevirtual 41, 3) := by decide +kernel
theorem dX0_numberIn_75 : decode cX0_numberIn 75 = .ok (.aload_n 0, 1) := by decide +kernel
theorem dX0_numberIn_76 : decode cX0_numberIn 76 = .ok (.dup, 1) := by decide +kernel
theorem dX0_numberIn_77 : decode cX0_numberIn 77 = .ok (.getfield 27, 3) := by decide +kernel
theorem dX0_numberIn_80 : decode cX0_numberIn 80 = .ok (.iconst 1, 1) := by decide +kernel
theorem dX0_numberIn_81 : decode cX0_numberIn 81 = .ok (.iadd, 1) := by decide +kernel
theorem dX0_numberIn_82 : decode cX0_numberIn 82 = .ok (.putfield 27, 3) := by decide +kernel
theorem dX0_numberIn_85 : decode cX0_numberIn 85 = .ok (.iinc 2 1, 3) := by decide +kernel
theorem dX0_numberIn_88 : decode cX0_numberIn 88 = .ok (.goto (-61), 3) := by decide +kernel
theorem dX0_numberIn_91 : decode cX0_numberIn 91 = .ok (.aload_n 0, 1) := by decide +kernel
theorem dX0_numberIn_92 : decode cX0_numberIn 92 = .ok (.iconst 0, 1) := by decide +kernel
theorem dX0_numberIn_93 : decode cX0_numberIn 93 = .ok (.putfield 31, 3) := by decide +kernel
theorem dX0_numberIn_96 : decode cX0_numberIn 96 = .ok (.aload_n 0, 1) := by decide +kernel
theorem dX0_numberIn_97 : decode cX0_numberIn 97 = .ok (.getfield 27, 3) := by decide +kernel
theorem dX0_numberIn_100 : decode cX0_numberIn 100 = .ok (.ireturn, 1) := by decide +kernel
theorem dX0_findHeap_0 : decode cX0_findHeap 0 = .ok (.iconst 0, 1) := by decide +kernel
theorem dX0_findHeap_1 : decode cX0_findHeap 1 = .ok (.istore 4, 2) := by decide +kernel
theorem dX0_findHeap_3 : decode cX0_findHeap 3 = .ok (.iconst 1, 1) := by decide +kernel
theorem dX0_findHeap_4 : decode cX0_findHeap 4 = .ok (.istore 5, 2) := by decide +kernel
theorem dX0_findHeap_6 : decode cX0_findHeap 6 = .ok (.aload_n 0, 1) := by decide +kernel
theorem dX0_findHeap_7 : decode cX0_findHeap 7 = .ok (.getfield 24, 3) := by decide +kernel
theorem dX0_findHeap_10 : decode cX0_findHeap 10 = .ok (.iconst 0, 1) := by decide +kernel
theorem dX0_findHeap_11 : decode cX0_findHeap 11 = .ok (.iload_n 2, 1) := by decide +kernel
theorem dX0_findHeap_12 : decode cX0_findHeap 12 = .ok (.iastore, 1) := by decide +kernel
theorem dX0_findHeap_13 : decode cX0_findHeap 13 = .ok (.aload_n 0, 1) := by decide +kernel
theorem dX0_findHeap_14 : decode cX0_findHeap 14 = .ok (.getfield 21, 3) := by decide +kernel
theorem dX0_findHeap_17 : decode cX0_findHeap 17 = .ok (.iload_n 2, 1) := by decide +kernel
theorem dX0_findHeap_18 : decode cX0_findHeap 18 = .ok (.iload_n 3, 1) := by decide +kernel
theorem dX0_findHeap_19 : decode cX0_findHeap 19 = .ok (.iastore, 1) := by decide +kernel
theorem dX0_findHeap_20 : decode cX0_findHeap 20 = .ok (.iconst 0, 1) := by decide +kernel
theorem dX0_findHeap_21 : decode cX0_findHeap 21 = .ok (.istore 6, 2) := by decide +kernel
theorem dX0_findHeap_23 : decode cX0_findHeap 23 = .ok (.iload 6, 2) := by decide +kernel
theorem dX0_findHeap_25 : decode cX0_findHeap 25 = .ok (.iload 5, 2) := by decide +kernel
theorem dX0_findHeap_27 : decode cX0_findHeap 27 = .ok (.if_icmp .ge 109, 3) := by decide +kernel
theorem dX0_findHeap_30 : decode cX0_findHeap 30 = .ok (.iload 6, 2) := by decide +kernel
theorem dX0_findHeap_32 : decode cX0_findHeap 32 = .ok (.sipush 256, 3) := by decide +kernel
theorem dX0_findHeap_35 : decode cX0_findHeap 35 = .ok (.if_icmp .ge 101, 3) := by decide +kernel
theorem dX0_findHeap_38 : decode cX0_findHeap 38 = .ok (.aload_n 0, 1) := by decide +kernel
theorem dX0_findHeap_39 : decode cX0_findHeap 39 = .ok (.getfield 24, 3) := by decide +kernel
theorem dX0_findHeap_42 : decode cX0_findHeap 42 = .ok (.iload 6, 2) := by decide +kernel
theorem dX0_findHeap_44 : decode cX0_findHeap 44 = .ok (.iaload, 1) := by decide +kernel
theorem dX0_findHeap_45 : decode cX0_findHeap 45 = .ok (.istore 7, 2) := by decide +kernel
theorem dX0_findHeap_47 : decode cX0_findHeap 47 = .ok (.iload 4, 2) := by decide +kernel
theorem dX0_findHeap_49 : decode cX0_findHeap 49 = .ok (.aload_n 1, 1) := by decide +kernel
theorem dX0_findHeap_50 : decode cX0_findHeap 50 = .ok (.iload 7, 2) := by decide +kernel
theorem dX0_findHeap_52 : decode cX0_findHeap 52 = .ok (.iaload, 1) := by decide +kernel
theorem dX0_findHeap_53 : decode cX0_findHeap 53 = .ok (.iadd, 1) := by decide +kernel
theorem dX0_findHeap_54 : decode cX0_findHeap 54 = .ok (.istore 4, 2) := by decide +kernel
theorem dX0_findHeap_56 : decode cX0_findHeap 56 = .ok (.iconst 0, 1) := by decide +kernel
theorem dX0_findHeap_57 : decode cX0_findHeap 57 = .ok (.istore 8, 2) := by decide +kernel
theorem dX0_findHeap_59 : decode cX0_findHeap 59 = .ok (.iload 8, 2) := by decide +kernel
theorem dX0_findHeap_61 : decode cX0_findHeap 61 = .ok (.iconst 3, 1) := by decide +kernel
theorem dX0_findHeap_62 : decode cX0_findHeap 62 = .ok (.if_icmp .gt 68, 3) := by decide +kernel
theorem dX0_findHeap_65 : decode cX0_findHeap 65 = .ok (.iload 7, 2) := by decide +kernel
theorem dX0_findHeap_67 : decode cX0_findHeap 67 = .ok (.iload 8, 2) := by decide +kernel
theorem dX0_findHeap_69 : decode cX0_findHeap 69 = .ok (.invokestatic 45, 3) := by decide +kernel
theorem dX0_findHeap_72 : decode cX0_findHeap 72 = .ok (.istore 9, 2) := by decide +kernel
theorem dX0_findHeap_74 : decode cX0_findHeap 74 = .ok (.iload 9, 2) := by decide +kernel
theorem dX0_findHeap_76 : decode cX0_findHeap 76 = .ok (.ifCond .lt 48, 3) := by decide +kernel
theorem dX0_findHeap_79 : decode cX0_findHeap 79 = .ok (.aload_n 1, 1) := by decide +kernel
theorem dX0_findHeap_80 : decode cX0_findHeap 80 = .ok (.iload 9, 2) := by decide +kernel
theorem dX0_findHeap_82 : decode cX0_findHeap 82 = .ok (.iaload, 1) := by decide +kernel
theorem dX0_findHeap_83 : decode cX0_findHeap 83 = .ok (.ifCond .le 41, 3) := by decide +kernel
theorem dX0_findHeap_86 : decode cX0_findHeap 86 = .ok (.aload_n 0, 1) := by decide +kernel
theorem dX0_findHeap_87 : decode cX0_findHeap 87 = .ok (.getfield 21, 3) := by decide +kernel
theorem dX0_findHeap_90 : decode cX0_findHeap 90 = .ok (.iload 9, 2) := by decide +kernel
theorem dX0_findHeap_92 : decode cX0_findHeap 92 = .ok (.iaload, 1) := by decide +kernel
theorem dX0_findHeap_93 : decode cX0_findHeap 93 = .ok (.ifCond .ge 31, 3) := by decide +kernel
theorem dX0_findHeap_96 : decode cX0_findHeap 96 = .ok (.iload 5, 2) := by decide +kernel
theorem dX0_findHeap_98 : decode cX0_findHeap 98 = .ok (.sipush 256, 3) := by decide +kernel
theorem dX0_findHeap_101 : decode cX0_findHeap 101 = .ok (.if_icmp .ge 23, 3) := by decide +kernel
theorem dX0_findHeap_104 : decode cX0_findHeap 104 = .ok (.aload_n 0, 1) := by decide +kernel
theorem dX0_findHeap_105 : decode cX0_findHeap 105 = .ok (.getfield 21, 3) := by decide +kernel
theorem dX0_findHeap_108 : decode cX0_findHeap 108 = .ok (.iload 9, 2) := by decide +kernel
theorem dX0_findHeap_110 : decode cX0_findHeap 110 = .ok (.iload_n 3, 1) := by decide +kernel
theorem dX0_findHeap_111 : decode cX0_findHeap 111 = .ok (.iastore, 1) := by decide +kernel
theorem dX0_findHeap_112 : decode cX0_findHeap 112 = .ok (.aload_n 0, 1) := by decide +kernel
theorem dX0_findHeap_113 : decode cX0_findHeap 113 = .ok (.getfield 24, 3) := by decide +kernel
theorem dX0_findHeap_116 : decode cX0_findHeap 116 = .ok (.iload 5, 2) := by decide +kernel
theorem dX0_findHeap_118 : decode cX0_findHeap 118 = .ok (.iload 9, 2) := by decide +kernel
theorem dX0_findHeap_120 : decode cX0_findHeap 120 = .ok (.iastore, 1) := by decide +kernel
theorem dX0_findHeap_121 : decode cX0_findHeap 121 = .ok (.iinc 5 1, 3) := by decide +kernel
theorem dX0_findHeap_124 : decode cX0_findHeap 124 = .ok (.iinc 8 1, 3) := by decide +kernel
theorem dX0_findHeap_127 : decode cX0_findHeap 127 = .ok (.goto (-68), 3) := by decide +kernel
theorem dX0_findHeap_130 : decode cX0_findHeap 130 = .ok (.iinc 6 1, 3) := by decide +kernel
theorem dX0_findHeap_133 : decode cX0_findHeap 133 = .ok (.goto (-110), 3) := by decide +kernel
theorem dX0_findHeap_136 : decode cX0_findHeap 136 = .ok (.aload_n 0, 1) := by decide +kernel
theorem dX0_findHeap_137 : decode cX0_findHeap 137 = .ok (.getfield 9, 3) := by decide +kernel
theorem dX0_findHeap_140 : decode cX0_findHeap 140 = .ok (.iload_n 3, 1) := by decide +kernel
theorem dX0_findHeap_141 : decode cX0_findHeap 141 = .ok (.iload 4, 2) := by decide +kernel
theorem dX0_findHeap_143 : decode cX0_findHeap 143 = .ok (.iastore, 1) := by decide +kernel
theorem dX0_findHeap_144 : decode cX0_findHeap 144 = .ok (.aload_n 0, 1) := by decide +kernel
theorem dX0_findHeap_145 : decode cX0_findHeap 145 = .ok (.getfield 15, 3) := by decide +kernel
theorem dX0_findHeap_148 : decode cX0_findHeap 148 = .ok (.iload_n 3, 1) := by decide +kernel
theorem dX0_findHeap_149 : decode cX0_findHeap 149 = .ok (.iload 5, 2) := by decide +kernel
theorem dX0_findHeap_151 : decode cX0_findHeap 151 = .ok (.iastore, 1) := by decide +kernel
theorem dX0_findHeap_152 : decode cX0_findHeap 152 = .ok (.aload_n 0, 1) := by decide +kernel
theorem dX0_findHeap_153 : decode cX0_findHeap 153 = .ok (.getfield 18, 3) := by decide +kernel
theorem dX0_findHeap_156 : decode cX0_findHeap 156 = .ok (.iload_n 3, 1) := by decide +kernel
theorem dX0_findHeap_157 : decode cX0_findHeap 157 = .ok (.iload_n 2, 1) := by decide +kernel
theorem dX0_findHeap_158 : decode cX0_findHeap 158 = .ok (.iastore, 1) := by decide +kernel
theorem dX0_findHeap_159 : decode cX0_findHeap 159 = .ok (.return_, 1) := by decide +kernel
theorem dX0_neighbour_0 : decode cX0_neighbour 0 = .ok (.iload_n 0, 1) := by decide +kernel
theorem dX0_neighbour_1 : decode cX0_neighbour 1 = .ok (.bipush 16, 2) := by decide +kernel
theorem dX0_neighbour_3 : decode cX0_neighbour 3 = .ok (.irem, 1) := by decide +kernel
theorem dX0_neighbour_4 : decode cX0_neighbour 4 = .ok (.istore_n 2, 1) := by decide +kernel
theorem dX0_neighbour_5 : decode cX0_neighbour 5 = .ok (.iload_n 1, 1) := by decide +kernel
theorem dX0_neighbour_6 : decode cX0_neighbour 6 = .ok (.tableswitch 71 0 2 #[26, 41, 55], 26) := by decide +kernel
theorem dX0_neighbour_32 : decode cX0_neighbour 32 = .ok (.iload_n 0, 1) := by decide +kernel
theorem dX0_neighbour_33 : decode cX0_neighbour 33 = .ok (.bipush 16, 2) := by decide +kernel
theorem dX0_neighbour_35 : decode cX0_neighbour 35 = .ok (.if_icmp .lt 10, 3) := by decide +kernel
theorem dX0_neighbour_38 : decode cX0_neighbour 38 = .ok (.iload_n 0, 1) := by decide +kernel
theorem dX0_neighbour_39 : decode cX0_neighbour 39 = .ok (.bipush 16, 2) := by decide +kernel
theorem dX0_neighbour_41 : decode cX0_neighbour 41 = .ok (.isub, 1) := by decide +kernel
theorem dX0_neighbour_42 : decode cX0_neighbour 42 = .ok (.goto 4, 3) := by decide +kernel
theorem dX0_neighbour_45 : decode cX0_neighbour 45 = .ok (.iconst (-1), 1) := by decide +kernel
theorem dX0_neighbour_46 : decode cX0_neighbour 46 = .ok (.ireturn, 1) := by decide +kernel
theorem dX0_neighbour_47 : decode cX0_neighbour 47 = .ok (.iload_n 2, 1) := by decide +kernel
theorem dX0_neighbour_48 : decode cX0_neighbour 48 = .ok (.bipush 15, 2) := by decide +kernel
theorem dX0_neighbour_50 : decode cX0_neighbour 50 = .ok (.if_icmp .ge 9, 3) := by decide +kernel
theorem dX0_neighbour_53 : decode cX0_neighbour 53 = .ok (.iload_n 0, 1) := by decide +kernel
theorem dX0_neighbour_54 : decode cX0_neighbour 54 = .ok (.iconst 1, 1) := by decide +kernel
theorem dX0_neighbour_55 : decode cX0_neighbour 55 = .ok (.iadd, 1) := by decide +kernel
theorem dX0_neighbour_56 : decode cX0_neighbour 56 = .ok (.goto 4, 3) := by decide +kernel
theorem dX0_neighbour_59 : decode cX0_neighbour 59 = .ok (.iconst (-1), 1) := by decide +kernel
theorem dX0_neighbour_60 : decode cX0_neighbour 60 = .ok (.ireturn, 1) := by decide +kernel
theorem dX0_neighbour_61 : decode cX0_neighbour 61 = .ok (.iload_n 0, 1) := by decide +kernel
theorem dX0_neighbour_62 : decode cX0_neighbour 62 = .ok (.sipush 240, 3) := by decide +kernel
theorem dX0_neighbour_65 : decode cX0_neighbour 65 = .ok (.if_icmp .ge 10, 3) := by decide +kernel
theorem dX0_neighbour_68 : decode cX0_neighbour 68 = .ok (.iload_n 0, 1) := by decide +kernel
theorem dX0_neighbour_69 : decode cX0_neighbour 69 = .ok (.bipush 16, 2) := by decide +kernel
theorem dX0_neighbour_71 : decode cX0_neighbour 71 = .ok (.iadd, 1) := by decide +kernel
theorem dX0_neighbour_72 : decode cX0_neighbour 72 = .ok (.goto 4, 3) := by decide +kernel
theorem dX0_neighbour_75 : decode cX0_neighbour 75 = .ok (.iconst (-1), 1) := by decide +kernel
theorem dX0_neighbour_76 : decode cX0_neighbour 76 = .ok (.ireturn, 1) := by decide +kernel
theorem dX0_neighbour_77 : decode cX0_neighbour 77 = .ok (.iload_n 2, 1) := by decide +kernel
theorem dX0_neighbour_78 : decode cX0_neighbour 78 = .ok (.ifCond .le 9, 3) := by decide +kernel
theorem dX0_neighbour_81 : decode cX0_neighbour 81 = .ok (.iload_n 0, 1) := by decide +kernel
theorem dX0_neighbour_82 : decode cX0_neighbour 82 = .ok (.iconst 1, 1) := by decide +kernel
theorem dX0_neighbour_83 : decode cX0_neighbour 83 = .ok (.isub, 1) := by decide +kernel
theorem dX0_neighbour_84 : decode cX0_neighbour 84 = .ok (.goto 4, 3) := by decide +kernel
theorem dX0_neighbour_87 : decode cX0_neighbour 87 = .ok (.iconst (-1), 1) := by decide +kernel
theorem dX0_neighbour_88 : decode cX0_neighbour 88 = .ok (.ireturn, 1) := by decide +kernel
theorem dX0_heapWith_0 : decode cX0_heapWith 0 = .ok (.iload_n 1, 1) := by decide +kernel
theorem dX0_heapWith_1 : decode cX0_heapWith 1 = .ok (.ifCond .lt 19, 3) := by decide +kernel
theorem dX0_heapWith_4 : decode cX0_heapWith 4 = .ok (.iload_n 1, 1) := by decide +kernel
theorem dX0_heapWith_5 : decode cX0_heapWith 5 = .ok (.sipush 256, 3) := by decide +kernel
theorem dX0_heapWith_8 : decode cX0_heapWith 8 = .ok (.if_icmp .ge 12, 3) := by decide +kernel
theorem dX0_heapWith_11 : decode cX0_heapWith 11 = .ok (.aload_n 0, 1) := by decide +kernel
theorem dX0_heapWith_12 : decode cX0_heapWith 12 = .ok (.getfield 21, 3) := by decide +kernel
theorem dX0_heapWith_15 : decode cX0_heapWith 15 = .ok (.iload_n 1, 1) := by decide +kernel
theorem dX0_heapWith_16 : decode cX0_heapWith 16 = .ok (.iaload, 1) := by decide +kernel
theorem dX0_heapWith_17 : decode cX0_heapWith 17 = .ok (.goto 4, 3) := by decide +kernel
theorem dX0_heapWith_20 : decode cX0_heapWith 20 = .ok (.iconst (-1), 1) := by decide +kernel
theorem dX0_heapWith_21 : decode cX0_heapWith 21 = .ok (.ireturn, 1) := by decide +kernel
theorem dX0_placeOf_0 : decode cX0_placeOf 0 = .ok (.iconst 0, 1) := by decide +kernel
theorem dX0_placeOf_1 : decode cX0_placeOf 1 = .ok (.istore_n 2, 1) := by decide +kernel
theorem dX0_placeOf_2 : decode cX0_placeOf 2 = .ok (.iconst 0, 1) := by decide +kernel
theorem dX0_placeOf_3 : decode cX0_placeOf 3 = .ok (.istore_n 3, 1) := by decide +kernel
theorem dX0_placeOf_4 : decode cX0_placeOf 4 = .ok (.iload_n 3, 1) := by decide +kernel
theorem dX0_placeOf_5 : decode cX0_placeOf 5 = .ok (.aload_n 0, 1) := by decide +kernel
theorem dX0_placeOf_6 : decode cX0_placeOf 6 = .ok (.getfield 27, 3) := by decide +kernel
theorem dX0_placeOf_9 : decode cX0_placeOf 9 = .ok (.if_icmp .ge 21, 3) := by decide +kernel
theorem dX0_placeOf_12 : decode cX0_placeOf 12 = .ok (.aload_n 0, 1) := by decide +kernel
theorem dX0_placeOf_13 : decode cX0_placeOf 13 = .ok (.iload_n 3, 1) := by decide +kernel
theorem dX0_placeOf_14 : decode cX0_placeOf 14 = .ok (.iload_n 1, 1) := by decide +kernel
theorem dX0_placeOf_15 : decode cX0_placeOf 15 = .ok (.invokevirtual 49, 3) := by decide +kernel
theorem dX0_placeOf_18 : decode cX0_placeOf 18 = .ok (.ifCond .eq 6, 3) := by decide +kernel
theorem dX0_placeOf_21 : decode cX0_placeOf 21 = .ok (.iinc 2 1, 3) := by decide +kernel
theorem dX0_placeOf_24 : decode cX0_placeOf 24 = .ok (.iinc 3 1, 3) := by decide +kernel
theorem dX0_placeOf_27 : decode cX0_placeOf 27 = .ok (.goto (-23), 3) := by decide +kernel
theorem dX0_placeOf_30 : decode cX0_placeOf 30 = .ok (.iload_n 2, 1) := by decide +kernel
theorem dX0_placeOf_31 : decode cX0_placeOf 31 = .ok (.ireturn, 1) := by decide +kernel
theorem dX0_heapAt_0 : decode cX0_heapAt 0 = .ok (.iconst 0, 1) := by decide +kernel
theorem dX0_heapAt_1 : decode cX0_heapAt 1 = .ok (.istore_n 2, 1) := by decide +kernel
theorem dX0_heapAt_2 : decode cX0_heapAt 2 = .ok (.iload_n 2, 1) := by decide +kernel
theorem dX0_heapAt_3 : decode cX0_heapAt 3 = .ok (.aload_n 0, 1) := by decide +kernel
theorem dX0_heapAt_4 : decode cX0_heapAt 4 = .ok (.getfield 27, 3) := by decide +kernel
theorem dX0_heapAt_7 : decode cX0_heapAt 7 = .ok (.if_icmp .ge 20, 3) := by decide +kernel
theorem dX0_heapAt_10 : decode cX0_heapAt 10 = .ok (.aload_n 0, 1) := by decide +kernel
theorem dX0_heapAt_11 : decode cX0_heapAt 11 = .ok (.iload_n 2, 1) := by decide +kernel
theorem dX0_heapAt_12 : decode cX0_heapAt 12 = .ok (.invokevirtual 53, 3) := by decide +kernel
theorem dX0_heapAt_15 : decode cX0_heapAt 15 = .ok (.iload_n 1, 1) := by decide +kernel
theorem dX0_heapAt_16 : decode cX0_heapAt 16 = .ok (.if_icmp .ne 5, 3) := by decide +kernel
theorem dX0_heapAt_19 : decode cX0_heapAt 19 = .ok (.iload_n 2, 1) := by decide +kernel
theorem dX0_heapAt_20 : decode cX0_heapAt 20 = .ok (.ireturn, 1) := by decide +kernel
theorem dX0_heapAt_21 : decode cX0_heapAt 21 = .ok (.iinc 2 1, 3) := by decide +kernel
theorem dX0_heapAt_24 : decode cX0_heapAt 24 = .ok (.goto (-22), 3) := by decide +kernel
theorem dX0_heapAt_27 : decode cX0_heapAt 27 = .ok (.iconst (-1), 1) := by decide +kernel
theorem dX0_heapAt_28 : decode cX0_heapAt 28 = .ok (.ireturn, 1) := by decide +kernel
theorem dX0_isGreatest_0 : decode cX0_isGreatest 0 = .ok (.iconst 0, 1) := by decide +kernel
theorem dX0_isGreatest_1 : decode cX0_isGreatest 1 = .ok (.istore_n 2, 1) := by decide +kernel
theorem dX0_isGreatest_2 : decode cX0_isGreatest 2 = .ok (.iload_n 2, 1) := by decide +kernel
theorem dX0_isGreatest_3 : decode cX0_isGreatest 3 = .ok (.aload_n 0, 1) := by decide +kernel
theorem dX0_isGreatest_4 : decode cX0_isGreatest 4 = .ok (.getfield 27, 3) := by decide +kernel
theorem dX0_isGreatest_7 : decode cX0_isGreatest 7 = .ok (.if_icmp .ge 20, 3) := by decide +kernel
theorem dX0_isGreatest_10 : decode cX0_isGreatest 10 = .ok (.aload_n 0, 1) := by decide +kernel
theorem dX0_isGreatest_11 : decode cX0_isGreatest 11 = .ok (.iload_n 2, 1) := by decide +kernel
theorem dX0_isGreatest_12 : decode cX0_isGreatest 12 = .ok (.iload_n 1, 1) := by decide +kernel
theorem dX0_isGreatest_13 : decode cX0_isGreatest 13 = .ok (.invokevirtual 49, 3) := by decide +kernel
theorem dX0_isGreatest_16 : decode cX0_isGreatest 16 = .ok (.ifCond .eq 5, 3) := by decide +kernel
theorem dX0_isGreatest_19 : decode cX0_isGreatest 19 = .ok (.iconst 0, 1) := by decide +kernel
theorem dX0_isGreatest_20 : decode cX0_isGreatest 20 = .ok (.ireturn, 1) := by decide +kernel
theorem dX0_isGreatest_21 : decode cX0_isGreatest 21 = .ok (.iinc 2 1, 3) := by decide +kernel
theorem dX0_isGreatest_24 : decode cX0_isGreatest 24 = .ok (.goto (-22), 3) := by decide +kernel
theorem dX0_isGreatest_27 : decode cX0_isGreatest 27 = .ok (.iload_n 1, 1) := by decide +kernel
theorem dX0_isGreatest_28 : decode cX0_isGreatest 28 = .ok (.ifCond .lt 7, 3) := by decide +kernel
theorem dX0_isGreatest_31 : decode cX0_isGreatest 31 = .ok (.iconst 1, 1) := by decide +kernel
theorem dX0_isGreatest_32 : decode cX0_isGreatest 32 = .ok (.goto 4, 3) := by decide +kernel
theorem dX0_isGreatest_35 : decode cX0_isGreatest 35 = .ok (.iconst 0, 1) := by decide +kernel
theorem dX0_isGreatest_36 : decode cX0_isGreatest 36 = .ok (.ireturn, 1) := by decide +kernel
theorem dX0_mostChips_0 : decode cX0_mostChips 0 = .ok (.iconst 0, 1) := by decide +kernel
theorem dX0_mostChips_1 : decode cX0_mostChips 1 = .ok (.istore_n 3, 1) := by decide +kernel
theorem dX0_mostChips_2 : decode cX0_mostChips 2 = .ok (.iconst 0, 1) := by decide +kernel
theorem dX0_mostChips_3 : decode cX0_mostChips 3 = .ok (.istore 4, 2) := by decide +kernel
theorem dX0_mostChips_5 : decode cX0_mostChips 5 = .ok (.iload 4, 2) := by decide +kernel
theorem dX0_mostChips_7 : decode cX0_mostChips 7 = .ok (.sipush 256, 3) := by decide +kernel
theorem dX0_mostChips_10 : decode cX0_mostChips 10 = .ok (.if_icmp .ge 36, 3) := by decide +kernel
theorem dX0_mostChips_13 : decode cX0_mostChips 13 = .ok (.iload 4, 2) := by decide +kernel
theorem dX0_mostChips_15 : decode cX0_mostChips 15 = .ok (.aload_n 1, 1) := by decide +kernel
theorem dX0_mostChips_16 : decode cX0_mostChips 16 = .ok (.arraylength, 1) := by decide +kernel
theorem dX0_mostChips_17 : decode cX0_mostChips 17 = .ok (.if_icmp .ge 29, 3) := by decide +kernel
theorem dX0_mostChips_20 : decode cX0_mostChips 20 = .ok (.aload_n 0, 1) := by decide +kernel
theorem dX0_mostChips_21 : decode cX0_mostChips 21 = .ok (.getfield 21, 3) := by decide +kernel
theorem dX0_mostChips_24 : decode cX0_mostChips 24 = .ok (.iload 4, 2) := by decide +kernel
theorem dX0_mostChips_26 : decode cX0_mostChips 26 = .ok (.iaload, 1) := by decide +kernel
theorem dX0_mostChips_27 : decode cX0_mostChips 27 = .ok (.iload_n 2, 1) := by decide +kernel
theorem dX0_mostChips_28 : decode cX0_mostChips 28 = .ok (.if_icmp .ne 12, 3) := by decide +kernel
theorem dX0_mostChips_31 : decode cX0_mostChips 31 = .ok (.iload_n 3, 1) := by decide +kernel
theorem dX0_mostChips_32 : decode cX0_mostChips 32 = .ok (.aload_n 1, 1) := by decide +kernel
theorem dX0_mostChips_33 : decode cX0_mostChips 33 = .ok (.iload 4, 2) := by decide +kernel
theorem dX0_mostChips_35 : decode cX0_mostChips 35 = .ok (.iaload, 1) := by decide +kernel
theorem dX0_mostChips_36 : decode cX0_mostChips 36 = .ok (.invokestatic 57, 3) := by decide +kernel
theorem dX0_mostChips_39 : decode cX0_mostChips 39 = .ok (.istore_n 3, 1) := by decide +kernel
theorem dX0_mostChips_40 : decode cX0_mostChips 40 = .ok (.iinc 4 1, 3) := by decide +kernel
theorem dX0_mostChips_43 : decode cX0_mostChips 43 = .ok (.goto (-38), 3) := by decide +kernel
theorem dX0_mostChips_46 : decode cX0_mostChips 46 = .ok (.iload_n 3, 1) := by decide +kernel
theorem dX0_mostChips_47 : decode cX0_mostChips 47 = .ok (.ireturn, 1) := by decide +kernel
theorem dX0_comesAhead_0 : decode cX0_comesAhead 0 = .ok (.iload_n 1, 1) := by decide +kernel
theorem dX0_comesAhead_1 : decode cX0_comesAhead 1 = .ok (.ifCond .lt 21, 3) := by decide +kernel
theorem dX0_comesAhead_4 : decode cX0_comesAhead 4 = .ok (.iload_n 1, 1) := by decide +kernel
theorem dX0_comesAhead_5 : decode cX0_comesAhead 5 = .ok (.sipush 128, 3) := by decide +kernel
theorem dX0_comesAhead_8 : decode cX0_comesAhead 8 = .ok (.if_icmp .ge 14, 3) := by decide +kernel
theorem dX0_comesAhead_11 : decode cX0_comesAhead 11 = .ok (.iload_n 2, 1) := by decide +kernel
theorem dX0_comesAhead_12 : decode cX0_comesAhead 12 = .ok (.ifCond .lt 10, 3) := by decide +kernel
theorem dX0_comesAhead_15 : decode cX0_comesAhead 15 = .ok (.iload_n 2, 1) := by decide +kernel
theorem dX0_comesAhead_16 : decode cX0_comesAhead 16 = .ok (.sipush 128, 3) := by decide +kernel
theorem dX0_comesAhead_19 : decode cX0_comesAhead 19 = .ok (.if_icmp .lt 5, 3) := by decide +kernel
theorem dX0_comesAhead_22 : decode cX0_comesAhead 22 = .ok (.iconst 0, 1) := by decide +kernel
theorem dX0_comesAhead_23 : decode cX0_comesAhead 23 = .ok (.ireturn, 1) := by decide +kernel
theorem dX0_comesAhead_24 : decode cX0_comesAhead 24 = .ok (.aload_n 0, 1) := by decide +kernel
theorem dX0_comesAhead_25 : decode cX0_comesAhead 25 = .ok (.getfield 9, 3) := by decide +kernel
theorem dX0_comesAhead_28 : decode cX0_comesAhead 28 = .ok (.iload_n 1, 1) := by decide +kernel
theorem dX0_comesAhead_29 : decode cX0_comesAhead 29 = .ok (.iaload, 1) := by decide +kernel
theorem dX0_comesAhead_30 : decode cX0_comesAhead 30 = .ok (.aload_n 0, 1) := by decide +kernel
theorem dX0_comesAhead_31 : decode cX0_comesAhead 31 = .ok (.getfield 9, 3) := by decide +kernel
theorem dX0_comesAhead_34 : decode cX0_comesAhead 34 = .ok (.iload_n 2, 1) := by decide +kernel
theorem dX0_comesAhead_35 : decode cX0_comesAhead 35 = .ok (.iaload, 1) := by decide +kernel
theorem dX0_comesAhead_36 : decode cX0_comesAhead 36 = .ok (.if_icmp .eq 24, 3) := by decide +kernel
theorem dX0_comesAhead_39 : decode cX0_comesAhead 39 = .ok (.aload_n 0, 1) := by decide +kernel
theorem dX0_comesAhead_40 : decode cX0_comesAhead 40 = .ok (.getfield 9, 3) := by decide +kernel
theorem dX0_comesAhead_43 : decode cX0_comesAhead 43 = .ok (.iload_n 1, 1) := by decide +kernel
theorem dX0_comesAhead_44 : decode cX0_comesAhead 44 = .ok (.iaload, 1) := by decide +kernel
theorem dX0_comesAhead_45 : decode cX0_comesAhead 45 = .ok (.aload_n 0, 1) := by decide +kernel
theorem dX0_comesAhead_46 : decode cX0_comesAhead 46 = .ok (.getfield 9, 3) := by decide +kernel
theorem dX0_comesAhead_49 : decode cX0_comesAhead 49 = .ok (.iload_n 2, 1) := by decide +kernel
theorem dX0_comesAhead_50 : decode cX0_comesAhead 50 = .ok (.iaload, 1) := by decide +kernel
theorem dX0_comesAhead_51 : decode cX0_comesAhead 51 = .ok (.if_icmp .le 7, 3) := by decide +kernel
theorem dX0_comesAhead_54 : decode cX0_comesAhead 54 = .ok (.iconst 1, 1) := by decide +kernel
theorem dX0_comesAhead_55 : decode cX0_comesAhead 55 = .ok (.goto 4, 3) := by decide +kernel
theorem dX0_comesAhead_58 : decode cX0_comesAhead 58 = .ok (.iconst 0, 1) := by decide +kernel
theorem dX0_comesAhead_59 : decode cX0_comesAhead 59 = .ok (.ireturn, 1) := by decide +kernel
theorem dX0_comesAhead_60 : decode cX0_comesAhead 60 = .ok (.aload_n 0, 1) := by decide +kernel
theorem dX0_comesAhead_61 : decode cX0_comesAhead 61 = .ok (.getfield 15, 3) := by decide +kernel
theorem dX0_comesAhead_64 : decode cX0_comesAhead 64 = .ok (.iload_n 1, 1) := by decide +kernel
theorem dX0_comesAhead_65 : decode cX0_comesAhead 65 = .ok (.iaload, 1) := by decide +kernel
theorem dX0_comesAhead_66 : decode cX0_comesAhead 66 = .ok (.aload_n 0, 1) := by decide +kernel
theorem dX0_comesAhead_67 : decode cX0_comesAhead 67 = .ok (.getfield 15, 3) := by decide +kernel
theorem dX0_comesAhead_70 : decode cX0_comesAhead 70 = .ok (.iload_n 2, 1) := by decide +kernel
theorem dX0_comesAhead_71 : decode cX0_comesAhead 71 = .ok (.iaload, 1) := by decide +kernel
theorem dX0_comesAhead_72 : decode cX0_comesAhead 72 = .ok (.if_icmp .eq 24, 3) := by decide +kernel
theorem dX0_comesAhead_75 : decode cX0_comesAhead 75 = .ok (.aload_n 0, 1) := by decide +kernel
theorem dX0_comesAhead_76 : decode cX0_comesAhead 76 = .ok (.getfield 15, 3) := by decide +kernel
theorem dX0_comesAhead_79 : decode cX0_comesAhead 79 = .ok (.iload_n 1, 1) := by decide +kernel
theorem dX0_comesAhead_80 : decode cX0_comesAhead 80 = .ok (.iaload, 1) := by decide +kernel
theorem dX0_comesAhead_81 : decode cX0_comesAhead 81 = .ok (.aload_n 0, 1) := by decide +kernel
theorem dX0_comesAhead_82 : decode cX0_comesAhead 82 = .ok (.getfield 15, 3) := by decide +kernel
theorem dX0_comesAhead_85 : decode cX0_comesAhead 85 = .ok (.iload_n 2, 1) := by decide +kernel
theorem dX0_comesAhead_86 : decode cX0_comesAhead 86 = .ok (.iaload, 1) := by decide +kernel
theorem dX0_comesAhead_87 : decode cX0_comesAhead 87 = .ok (.if_icmp .ge 7, 3) := by decide +kernel
theorem dX0_comesAhead_90 : decode cX0_comesAhead 90 = .ok (.iconst 1, 1) := by decide +kernel
theorem dX0_comesAhead_91 : decode cX0_comesAhead 91 = .ok (.goto 4, 3) := by decide +kernel
theorem dX0_comesAhead_94 : decode cX0_comesAhead 94 = .ok (.iconst 0, 1) := by decide +kernel
theorem dX0_comesAhead_95 : decode cX0_comesAhead 95 = .ok (.ireturn, 1) := by decide +kernel
theorem dX0_comesAhead_96 : decode cX0_comesAhead 96 = .ok (.iload_n 1, 1) := by decide +kernel
theorem dX0_comesAhead_97 : decode cX0_comesAhead 97 = .ok (.iload_n 2, 1) := by decide +kernel
theorem dX0_comesAhead_98 : decode cX0_comesAhead 98 = .ok (.if_icmp .ge 7, 3) := by decide +kernel
theorem dX0_comesAhead_101 : decode cX0_comesAhead 101 = .ok (.iconst 1, 1) := by decide +kernel
theorem dX0_comesAhead_102 : decode cX0_comesAhead 102 = .ok (.goto 4, 3) := by decide +kernel
theorem dX0_comesAhead_105 : decode cX0_comesAhead 105 = .ok (.iconst 0, 1) := by decide +kernel
theorem dX0_comesAhead_106 : decode cX0_comesAhead 106 = .ok (.ireturn, 1) := by decide +kernel
theorem dX1_init_0 : decode cX1_init 0 = .ok (.aload_n 0, 1) := by decide +kernel
theorem dX1_init_1 : decode cX1_init 1 = .ok (.invokespecial 3, 3) := by decide +kernel
theorem dX1_init_4 : decode cX1_init 4 = .ok (.aload_n 0, 1) := by decide +kernel
theorem dX1_init_5 : decode cX1_init 5 = .ok (.iconst 5, 1) := by decide +kernel
theorem dX1_init_6 : decode cX1_init 6 = .ok (.anewarray 9, 3) := by decide +kernel
theorem dX1_init_9 : decode cX1_init 9 = .ok (.putfield 11, 3) := by decide +kernel
theorem dX1_init_12 : decode cX1_init 12 = .ok (.aload_n 0, 1) := by decide +kernel
theorem dX1_init_13 : decode cX1_init 13 = .ok (.iconst 0, 1) := by decide +kernel
theorem dX1_init_14 : decode cX1_init 14 = .ok (.putfield 17, 3) := by decide +kernel
theorem dX1_init_17 : decode cX1_init 17 = .ok (.iconst 0, 1) := by decide +kernel
theorem dX1_init_18 : decode cX1_init 18 = .ok (.istore_n 1, 1) := by decide +kernel
theorem dX1_init_19 : decode cX1_init 19 = .ok (.iload_n 1, 1) := by decide +kernel
theorem dX1_init_20 : decode cX1_init 20 = .ok (.iconst 5, 1) := by decide +kernel
theorem dX1_init_21 : decode cX1_init 21 = .ok (.if_icmp .ge 22, 3) := by decide +kernel
theorem dX1_init_24 : decode cX1_init 24 = .ok (.aload_n 0, 1) := by decide +kernel
theorem dX1_init_25 : decode cX1_init 25 = .ok (.getfield 11, 3) := by decide +kernel
theorem dX1_init_28 : decode cX1_init 28 = .ok (.iload_n 1, 1) := by decide +kernel
theorem dX1_init_29 : decode cX1_init 29 = .ok (.new 9, 3) := by decide +kernel
theorem dX1_init_32 : decode cX1_init 32 = .ok (.dup, 1) := by decide +kernel
theorem dX1_init_33 : decode cX1_init 33 = .ok (.invokespecial 21, 3) := by decide +kernel
theorem dX1_init_36 : decode cX1_init 36 = .ok (.aastore, 1) := by decide +kernel
theorem dX1_init_37 : decode cX1_init 37 = .ok (.iinc 1 1, 3) := by decide +kernel
theorem dX1_init_40 : decode cX1_init 40 = .ok (.goto (-21), 3) := by decide +kernel
theorem dX1_init_43 : decode cX1_init 43 = .ok (.return_, 1) := by decide +kernel
theorem dX1_record_0 : decode cX1_record 0 = .ok (.aload_n 0, 1) := by decide +kernel
theorem dX1_record_1 : decode cX1_record 1 = .ok (.getfield 17, 3) := by decide +kernel
theorem dX1_record_4 : decode cX1_record 4 = .ok (.iconst 5, 1) := by decide +kernel
theorem dX1_record_5 : decode cX1_record 5 = .ok (.if_icmp .lt 7, 3) := by decide +kernel
theorem dX1_record_8 : decode cX1_record 8 = .ok (.aload_n 0, 1) := by decide +kernel
theorem dX1_record_9 : decode cX1_record 9 = .ok (.invokevirtual 22, 3) := by decide +kernel
theorem dX1_record_12 : decode cX1_record 12 = .ok (.aload_n 0, 1) := by decide +kernel
theorem dX1_record_13 : decode cX1_record 13 = .ok (.aload_n 0, 1) := by decide +kernel
theorem dX1_record_14 : decode cX1_record 14 = .ok (.getfield 17, 3) := by decide +kernel
theorem dX1_record_17 : decode cX1_record 17 = .ok (.invokevirtual 25, 3) := by decide +kernel
theorem dX1_record_20 : decode cX1_record 20 = .ok (.astore_n 2, 1) := by decide +kernel
theorem dX1_record_21 : decode cX1_record 21 = .ok (.aload_n 2, 1) := by decide +kernel
theorem dX1_record_22 : decode cX1_record 22 = .ok (.ifnull 18, 3) := by decide +kernel
theorem dX1_record_25 : decode cX1_record 25 = .ok (.aload_n 2, 1) := by decide +kernel
theorem dX1_record_26 : decode cX1_record 26 = .ok (.aload_n 1, 1) := by decide +kernel
theorem dX1_record_27 : decode cX1_record 27 = .ok (.invokevirtual 29, 3) := by decide +kernel
theorem dX1_record_30 : decode cX1_record 30 = .ok (.aload_n 0, 1) := by decide +kernel
theorem dX1_record_31 : decode cX1_record 31 = .ok (.dup, 1) := by decide +kernel
theorem dX1_record_32 : decode cX1_record 32 = .ok (.getfield 17, 3) := by decide +kernel
theorem dX1_record_35 : decode cX1_record 35 = .ok (.iconst 1, 1) := by decide +kernel
theorem dX1_record_36 : decode cX1_record 36 = .ok (.iadd, 1) := by decide +kernel
theorem dX1_record_37 : decode cX1_record 37 = .ok (.putfield 17, 3) := by decide +kernel
theorem dX1_record_40 : decode cX1_record 40 = .ok (.return_, 1) := by decide +kernel
theorem dX1_takeLatest_0 : decode cX1_takeLatest 0 = .ok (.aload_n 0, 1) := by decide +kernel
theorem dX1_takeLatest_1 : decode cX1_takeLatest 1 = .ok (.aload_n 0, 1) := by decide +kernel
theorem dX1_takeLatest_2 : decode cX1_takeLatest 2 = .ok (.getfield 17, 3) := by decide +kernel
theorem dX1_takeLatest_5 : decode cX1_takeLatest 5 = .ok (.iconst 1, 1) := by decide +kernel
theorem dX1_takeLatest_6 : decode cX1_takeLatest 6 = .ok (.isub, 1) := by decide +kernel
theorem dX1_takeLatest_7 : decode cX1_takeLatest 7 = .ok (.invokevirtual 25, 3) := by decide +kernel
theorem dX1_takeLatest_10 : decode cX1_takeLatest 10 = .ok (.astore_n 1, 1) := by decide +kernel
theorem dX1_takeLatest_11 : decode cX1_takeLatest 11 = .ok (.aload_n 1, 1) := by decide +kernel
theorem dX1_takeLatest_12 : decode cX1_takeLatest 12 = .ok (.ifnull 13, 3) := by decide +kernel
theorem dX1_takeLatest_15 : decode cX1_takeLatest 15 = .ok (.aload_n 0, 1) := by decide +kernel
theorem dX1_takeLatest_16 : decode cX1_takeLatest 16 = .ok (.dup, 1) := by decide +kernel
theorem dX1_takeLatest_17 : decode cX1_takeLatest 17 = .ok (.getfield 17, 3) := by decide +kernel
theorem dX1_takeLatest_20 : decode cX1_takeLatest 20 = .ok (.iconst 1, 1) := by decide +kernel
theorem dX1_takeLatest_21 : decode cX1_takeLatest 21 = .ok (.isub, 1) := by decide +kernel
theorem dX1_takeLatest_22 : decode cX1_takeLatest 22 = .ok (.putfield 17, 3) := by decide +kernel
theorem dX1_takeLatest_25 : decode cX1_takeLatest 25 = .ok (.aload_n 1, 1) := by decide +kernel
theorem dX1_takeLatest_26 : decode cX1_takeLatest 26 = .ok (.areturn, 1) := by decide +kernel
theorem dX1_dropOldest_0 : decode cX1_dropOldest 0 = .ok (.aload_n 0, 1) := by decide +kernel
theorem dX1_dropOldest_1 : decode cX1_dropOldest 1 = .ok (.getfield 11, 3) := by decide +kernel
theorem dX1_dropOldest_4 : decode cX1_dropOldest 4 = .ok (.iconst 0, 1) := by decide +kernel
theorem dX1_dropOldest_5 : decode cX1_dropOldest 5 = .ok (.aaload, 1) := by decide +kernel
theorem dX1_dropOldest_6 : decode cX1_dropOldest 6 = .ok (.astore_n 1, 1) := by decide +kernel
theorem dX1_dropOldest_7 : decode cX1_dropOldest 7 = .ok (.iconst 1, 1) := by decide +kernel
theorem dX1_dropOldest_8 : decode cX1_dropOldest 8 = .ok (.istore_n 2, 1) := by decide +kernel
theorem dX1_dropOldest_9 : decode cX1_dropOldest 9 = .ok (.iload_n 2, 1) := by decide +kernel
theorem dX1_dropOldest_10 : decode cX1_dropOldest 10 = .ok (.iconst 5, 1) := by decide +kernel
theorem dX1_dropOldest_11 : decode cX1_dropOldest 11 = .ok (.if_icmp .ge 23, 3) := by decide +kernel
theorem dX1_dropOldest_14 : decode cX1_dropOldest 14 = .ok (.aload_n 0, 1) := by decide +kernel
theorem dX1_dropOldest_15 : decode cX1_dropOldest 15 = .ok (.getfield 11, 3) := by decide +kernel
theorem dX1_dropOldest_18 : decode cX1_dropOldest 18 = .ok (.iload_n 2, 1) := by decide +kernel
theorem dX1_dropOldest_19 : decode cX1_dropOldest 19 = .ok (.iconst 1, 1) := by decide +kernel
theorem dX1_dropOldest_20 : decode cX1_dropOldest 20 = .ok (.isub, 1) := by decide +kernel
theorem dX1_dropOldest_21 : decode cX1_dropOldest 21 = .ok (.aload_n 0, 1) := by decide +kernel
theorem dX1_dropOldest_22 : decode cX1_dropOldest 22 = .ok (.getfield 11, 3) := by decide +kernel
theorem dX1_dropOldest_25 : decode cX1_dropOldest 25 = .ok (.iload_n 2, 1) := by decide +kernel
theorem dX1_dropOldest_26 : decode cX1_dropOldest 26 = .ok (.aaload, 1) := by decide +kernel
theorem dX1_dropOldest_27 : decode cX1_dropOldest 27 = .ok (.aastore, 1) := by decide +kernel
theorem dX1_dropOldest_28 : decode cX1_dropOldest 28 = .ok (.iinc 2 1, 3) := by decide +kernel
theorem dX1_dropOldest_31 : decode cX1_dropOldest 31 = .ok (.goto (-22), 3) := by decide +kernel
theorem dX1_dropOldest_34 : decode cX1_dropOldest 34 = .ok (.aload_n 0, 1) := by decide +kernel
theorem dX1_dropOldest_35 : decode cX1_dropOldest 35 = .ok (.getfield 11, 3) := by decide +kernel
theorem dX1_dropOldest_38 : decode cX1_dropOldest 38 = .ok (.iconst 4, 1) := by decide +kernel
theorem dX1_dropOldest_39 : decode cX1_dropOldest 39 = .ok (.aload_n 1, 1) := by decide +kernel
theorem dX1_dropOldest_40 : decode cX1_dropOldest 40 = .ok (.aastore, 1) := by decide +kernel
theorem dX1_dropOldest_41 : decode cX1_dropOldest 41 = .ok (.aload_n 0, 1) := by decide +kernel
theorem dX1_dropOldest_42 : decode cX1_dropOldest 42 = .ok (.iconst 4, 1) := by decide +kernel
theorem dX1_dropOldest_43 : decode cX1_dropOldest 43 = .ok (.putfield 17, 3) := by decide +kernel
theorem dX1_dropOldest_46 : decode cX1_dropOldest 46 = .ok (.return_, 1) := by decide +kernel
theorem dX1_stateAt_0 : decode cX1_stateAt 0 = .ok (.iload_n 1, 1) := by decide +kernel
theorem dX1_stateAt_1 : decode cX1_stateAt 1 = .ok (.ifCond .lt 12, 3) := by decide +kernel
theorem dX1_stateAt_4 : decode cX1_stateAt 4 = .ok (.iload_n 1, 1) := by decide +kernel
theorem dX1_stateAt_5 : decode cX1_stateAt 5 = .ok (.aload_n 0, 1) := by decide +kernel
theorem dX1_stateAt_6 : decode cX1_stateAt 6 = .ok (.getfield 11, 3) := by decide +kernel
theorem dX1_stateAt_9 : decode cX1_stateAt 9 = .ok (.arraylength, 1) := by decide +kernel
theorem dX1_stateAt_10 : decode cX1_stateAt 10 = .ok (.if_icmp .lt 5, 3) := by decide +kernel
theorem dX1_stateAt_13 : decode cX1_stateAt 13 = .ok (.aconst_null, 1) := by decide +kernel
theorem dX1_stateAt_14 : decode cX1_stateAt 14 = .ok (.areturn, 1) := by decide +kernel
theorem dX1_stateAt_15 : decode cX1_stateAt 15 = .ok (.aload_n 0, 1) := by decide +kernel
theorem dX1_stateAt_16 : decode cX1_stateAt 16 = .ok (.getfield 11, 3) := by decide +kernel
theorem dX1_stateAt_19 : decode cX1_stateAt 19 = .ok (.iload_n 1, 1) := by decide +kernel
theorem dX1_stateAt_20 : decode cX1_stateAt 20 = .ok (.aaload, 1) := by decide +kernel
theorem dX1_stateAt_21 : decode cX1_stateAt 21 = .ok (.areturn, 1) := by decide +kernel
theorem dX2_init_0 : decode cX2_init 0 = .ok (.aload_n 0, 1) := by decide +kernel
theorem dX2_init_1 : decode cX2_init 1 = .ok (.invokespecial 3, 3) := by decide +kernel
theorem dX2_init_4 : decode cX2_init 4 = .ok (.aload_n 0, 1) := by decide +kernel
theorem dX2_init_5 : decode cX2_init 5 = .ok (.bipush 40, 2) := by decide +kernel
theorem dX2_init_7 : decode cX2_init 7 = .ok (.newarray .char, 2) := by decide +kernel
theorem dX2_init_9 : decode cX2_init 9 = .ok (.putfield 9, 3) := by decide +kernel
theorem dX2_init_12 : decode cX2_init 12 = .ok (.aload_n 0, 1) := by decide +kernel
theorem dX2_init_13 : decode cX2_init 13 = .ok (.iconst 0, 1) := by decide +kernel
theorem dX2_init_14 : decode cX2_init 14 = .ok (.putfield 15, 3) := by decide +kernel
theorem dX2_init_17 : decode cX2_init 17 = .ok (.aload_n 0, 1) := by decide +kernel
theorem dX2_init_18 : decode cX2_init 18 = .ok (.bipush 40, 2) := by decide +kernel
theorem dX2_init_20 : decode cX2_init 20 = .ok (.newarray .char, 2) := by decide +kernel
theorem dX2_init_22 : decode cX2_init 22 = .ok (.putfield 19, 3) := by decide +kernel
theorem dX2_init_25 : decode cX2_init 25 = .ok (.aload_n 0, 1) := by decide +kernel
theorem dX2_init_26 : decode cX2_init 26 = .ok (.bipush 40, 2) := by decide +kernel
theorem dX2_init_28 : decode cX2_init 28 = .ok (.newarray .int, 2) := by decide +kernel
theorem dX2_init_30 : decode cX2_init 30 = .ok (.putfield 22, 3) := by decide +kernel
theorem dX2_init_33 : decode cX2_init 33 = .ok (.aload_n 0, 1) := by decide +kernel
theorem dX2_init_34 : decode cX2_init 34 = .ok (.iconst 0, 1) := by decide +kernel
theorem dX2_init_35 : decode cX2_init 35 = .ok (.putfield 26, 3) := by decide +kernel
theorem dX2_init_38 : decode cX2_init 38 = .ok (.aload_n 0, 1) := by decide +kernel
theorem dX2_init_39 : decode cX2_init 39 = .ok (.iconst 0, 1) := by decide +kernel
theorem dX2_init_40 : decode cX2_init 40 = .ok (.putfield 29, 3) := by decide +kernel
theorem dX2_init_43 : decode cX2_init 43 = .ok (.return_, 1) := by decide +kernel
theorem dX2_append_0 : decode cX2_append 0 = .ok (.aload_n 0, 1) := by decide +kernel
theorem dX2_append_1 : decode cX2_append 1 = .ok (.getfield 15, 3) := by decide +kernel
theorem dX2_append_4 : decode cX2_append 4 = .ok (.ifCond .lt 15, 3) := by decide +kernel
theorem dX2_append_7 : decode cX2_append 7 = .ok (.aload_n 0, 1) := by decide +kernel
theorem dX2_append_8 : decode cX2_append 8 = .ok (.getfield 15, 3) := by decide +kernel
theorem dX2_append_11 : decode cX2_append 11 = .ok (.aload_n 0, 1) := by decide +kernel
theorem dX2_append_12 : decode cX2_append 12 = .ok (.getfield 9, 3) := by decide +kernel
theorem dX2_append_15 : decode cX2_append 15 = .ok (.arraylength, 1) := by decide +kernel
theorem dX2_append_16 : decode cX2_append 16 = .ok (.if_icmp .lt 5, 3) := by decide +kernel
theorem dX2_append_19 : decode cX2_append 19 = .ok (.iconst 0, 1) := by decide +kernel
theorem dX2_append_20 : decode cX2_append 20 = .ok (.ireturn, 1) := by decide +kernel
theorem dX2_append_21 : decode cX2_append 21 = .ok (.aload_n 0, 1) := by decide +kernel
theorem dX2_append_22 : decode cX2_append 22 = .ok (.getfield 9, 3) := by decide +kernel
theorem dX2_append_25 : decode cX2_append 25 = .ok (.aload_n 0, 1) := by decide +kernel
theorem dX2_append_26 : decode cX2_append 26 = .ok (.getfield 15, 3) := by decide +kernel
theorem dX2_append_29 : decode cX2_append 29 = .ok (.iload_n 1, 1) := by decide +kernel
theorem dX2_append_30 : decode cX2_append 30 = .ok (.castore, 1) := by decide +kernel
theorem dX2_append_31 : decode cX2_append 31 = .ok (.aload_n 0, 1) := by decide +kernel
theorem dX2_append_32 : decode cX2_append 32 = .ok (.dup, 1) := by decide +kernel
theorem dX2_append_33 : decode cX2_append 33 = .ok (.getfield 15, 3) := by decide +kernel
theorem dX2_append_36 : decode cX2_append 36 = .ok (.iconst 1, 1) := by decide +kernel
theorem dX2_append_37 : decode cX2_append 37 = .ok (.iadd, 1) := by decide +kernel
theorem dX2_append_38 : decode cX2_append 38 = .ok (.putfield 15, 3) := by decide +kernel
theorem dX2_append_41 : decode cX2_append 41 = .ok (.iconst 1, 1) := by decide +kernel
theorem dX2_append_42 : decode cX2_append 42 = .ok (.ireturn, 1) := by decide +kernel
theorem dX2_readOrders_0 : decode cX2_readOrders 0 = .ok (.aload_n 0, 1) := by decide +kernel
theorem dX2_readOrders_1 : decode cX2_readOrders 1 = .ok (.iconst 0, 1) := by decide +kernel
theorem dX2_readOrders_2 : decode cX2_readOrders 2 = .ok (.putfield 26, 3) := by decide +kernel
theorem dX2_readOrders_5 : decode cX2_readOrders 5 = .ok (.aload_n 0, 1) := by decide +kernel
theorem dX2_readOrders_6 : decode cX2_readOrders 6 = .ok (.iconst 0, 1) := by decide +kernel
theorem dX2_readOrders_7 : decode cX2_readOrders 7 = .ok (.putfield 29, 3) := by decide +kernel
theorem dX2_readOrders_10 : decode cX2_readOrders 10 = .ok (.iconst 0, 1) := by decide +kernel
theorem dX2_readOrders_11 : decode cX2_readOrders 11 = .ok (.istore_n 2, 1) := by decide +kernel
theorem dX2_readOrders_12 : decode cX2_readOrders 12 = .ok (.iload_n 2, 1) := by decide +kernel
theorem dX2_readOrders_13 : decode cX2_readOrders 13 = .ok (.aload_n 0, 1) := by decide +kernel
theorem dX2_readOrders_14 : decode cX2_readOrders 14 = .ok (.getfield 15, 3) := by decide +kernel
theorem dX2_readOrders_17 : decode cX2_readOrders 17 = .ok (.if_icmp .ge 34, 3) := by decide +kernel
theorem dX2_readOrders_20 : decode cX2_readOrders 20 = .ok (.iload_n 2, 1) := by decide +kernel
theorem dX2_readOrders_21 : decode cX2_readOrders 21 = .ok (.aload_n 0, 1) := by decide +kernel
theorem dX2_readOrders_22 : decode cX2_readOrders 22 = .ok (.getfield 9, 3) := by decide +kernel
theorem dX2_readOrders_25 : decode cX2_readOrders 25 = .ok (.arraylength, 1) := by decide +kernel
theorem dX2_readOrders_26 : decode cX2_readOrders 26 = .ok (.if_icmp .ge 25, 3) := by decide +kernel
theorem dX2_readOrders_29 : decode cX2_readOrders 29 = .ok (.aload_n 0, 1) := by decide +kernel
theorem dX2_readOrders_30 : decode cX2_readOrders 30 = .ok (.aload_n 0, 1) := by decide +kernel
theorem dX2_readOrders_31 : decode cX2_readOrders 31 = .ok (.getfield 9, 3) := by decide +kernel
theorem dX2_readOrders_34 : decode cX2_readOrders 34 = .ok (.iload_n 2, 1) := by decide +kernel
theorem dX2_readOrders_35 : decode cX2_readOrders 35 = .ok (.caload, 1) := by decide +kernel
theorem dX2_readOrders_36 : decode cX2_readOrders 36 = .ok (.iload_n 1, 1) := by decide +kernel
theorem dX2_readOrders_37 : decode cX2_readOrders 37 = .ok (.invokevirtual 33, 3) := by decide +kernel
theorem dX2_readOrders_40 : decode cX2_readOrders 40 = .ok (.ifCond .ne 5, 3) := by decide +kernel
theorem dX2_readOrders_43 : decode cX2_readOrders 43 = .ok (.iload_n 2, 1) := by decide +kernel
theorem dX2_readOrders_44 : decode cX2_readOrders 44 = .ok (.ireturn, 1) := by decide +kernel
theorem dX2_readOrders_45 : decode cX2_readOrders 45 = .ok (.iinc 2 1, 3) := by decide +kernel
theorem dX2_readOrders_48 : decode cX2_readOrders 48 = .ok (.goto (-36), 3) := by decide +kernel
theorem dX2_readOrders_51 : decode cX2_readOrders 51 = .ok (.aload_n 0, 1) := by decide +kernel
theorem dX2_readOrders_52 : decode cX2_readOrders 52 = .ok (.getfield 15, 3) := by decide +kernel
theorem dX2_readOrders_55 : decode cX2_readOrders 55 = .ok (.ifCond .eq 10, 3) := by decide +kernel
theorem dX2_readOrders_58 : decode cX2_readOrders 58 = .ok (.aload_n 0, 1) := by decide +kernel
theorem dX2_readOrders_59 : decode cX2_readOrders 59 = .ok (.getfield 29, 3) := by decide +kernel
theorem dX2_readOrders_62 : decode cX2_readOrders 62 = .ok (.ifCond .eq 10, 3) := by decide +kernel
theorem dX2_readOrders_65 : decode cX2_readOrders 65 = .ok (.aload_n 0, 1) := by decide +kernel
theorem dX2_readOrders_66 : decode cX2_readOrders 66 = .ok (.getfield 15, 3) := by decide +kernel
theorem dX2_readOrders_69 : decode cX2_readOrders 69 = .ok (.goto 4, 3) := by decide +kernel
theorem dX2_readOrders_72 : decode cX2_readOrders 72 = .ok (.iconst (-1), 1) := by decide +kernel
theorem dX2_readOrders_73 : decode cX2_readOrders 73 = .ok (.ireturn, 1) := by decide +kernel
theorem dX2_takes_0 : decode cX2_takes 0 = .ok (.iload_n 1, 1) := by decide +kernel
theorem dX2_takes_1 : decode cX2_takes 1 = .ok (.bipush 48, 2) := by decide +kernel
theorem dX2_takes_3 : decode cX2_takes 3 = .ok (.if_icmp .lt 13, 3) := by decide +kernel
theorem dX2_takes_6 : decode cX2_takes 6 = .ok (.iload_n 1, 1) := by decide +kernel
theorem dX2_takes_7 : decode cX2_takes 7 = .ok (.bipush 57, 2) := by decide +kernel
theorem dX2_takes_9 : decode cX2_takes 9 = .ok (.if_icmp .gt 7, 3) := by decide +kernel
theorem dX2_takes_12 : decode cX2_takes 12 = .ok (.iconst 1, 1) := by decide +kernel
theorem dX2_takes_13 : decode cX2_takes 13 = .ok (.goto 4, 3) := by decide +kernel
theorem dX2_takes_16 : decode cX2_takes 16 = .ok (.iconst 0, 1) := by decide +kernel
theorem dX2_takes_17 : decode cX2_takes 17 = .ok (.istore_n 3, 1) := by decide +kernel
theorem dX2_takes_18 : decode cX2_takes 18 = .ok (.aload_n 0, 1) := by decide +kernel
theorem dX2_takes_19 : decode cX2_takes 19 = .ok (.getfield 29, 3) := by decide +kernel
theorem dX2_takes_22 : decode cX2_takes 22 = .ok (.ifCond .eq 30, 3) := by decide +kernel
theorem dX2_takes_25 : decode cX2_takes 25 = .ok (.aload_n 0, 1) := by decide +kernel
theorem dX2_takes_26 : decode cX2_takes 26 = .ok (.iconst 0, 1) := by decide +kernel
theorem dX2_takes_27 : decode cX2_takes 27 = .ok (.putfield 29, 3) := by decide +kernel
theorem dX2_takes_30 : decode cX2_takes 30 = .ok (.iload_n 3, 1) := by decide +kernel
theorem dX2_takes_31 : decode cX2_takes 31 = .ok (.ifCond .eq 19, 3) := by decide +kernel
theorem dX2_takes_34 : decode cX2_takes 34 = .ok (.aload_n 0, 1) := by decide +kernel
theorem dX2_takes_35 : decode cX2_takes 35 = .ok (.iload_n 1, 1) := by decide +kernel
theorem dX2_takes_36 : decode cX2_takes 36 = .ok (.bipush 48, 2) := by decide +kernel
theorem dX2_takes_38 : decode cX2_takes 38 = .ok (.isub, 1) := by decide +kernel
theorem dX2_takes_39 : decode cX2_takes 39 = .ok (.iload_n 2, 1) := by decide +kernel
theorem dX2_takes_40 : decode cX2_takes 40 = .ok (.invokevirtual 37, 3) := by decide +kernel
theorem dX2_takes_43 : decode cX2_takes 43 = .ok (.ifCond .eq 7, 3) := by decide +kernel
theorem dX2_takes_46 : decode cX2_takes 46 = .ok (.iconst 1, 1) := by decide +kernel
theorem dX2_takes_47 : decode cX2_takes 47 = .ok (.goto 4, 3) := by decide +kernel
theorem dX2_takes_50 : decode cX2_takes 50 = .ok (.iconst 0, 1) := by decide +kernel
theorem dX2_takes_51 : decode cX2_takes 51 = .ok (.ireturn, 1) := by decide +kernel
theorem dX2_takes_52 : decode cX2_takes 52 = .ok (.iload_n 3, 1) := by decide +kernel
theorem dX2_takes_53 : decode cX2_takes 53 = .ok (.ifCond .eq 14, 3) := by decide +kernel
theorem dX2_takes_56 : decode cX2_takes 56 = .ok (.aload_n 0, 1) := by decide +kernel
theorem dX2_takes_57 : decode cX2_takes 57 = .ok (.iload_n 1, 1) := by decide +kernel
theorem dX2_takes_58 : decode cX2_takes 58 = .ok (.bipush 48, 2) := by decide +kernel
theorem dX2_takes_60 : decode cX2_takes 60 = .ok (.isub, 1) := by decide +kernel
theorem dX2_takes_61 : decode cX2_takes 61 = .ok (.invokevirtual 41, 3) := by decide +kernel
theorem dX2_takes_64 : decode cX2_takes 64 = .ok (.goto 9, 3) := by decide +kernel
theorem dX2_takes_67 : decode cX2_takes 67 = .ok (.aload_n 0, 1) := by decide +kernel
theorem dX2_takes_68 : decode cX2_takes 68 = .ok (.iload_n 1, 1) := by decide +kernel
theorem dX2_takes_69 : decode cX2_takes 69 = .ok (.iload_n 2, 1) := by decide +kernel
theorem dX2_takes_70 : decode cX2_takes 70 = .ok (.invokevirtual 45, 3) := by decide +kernel
theorem dX2_takes_73 : decode cX2_takes 73 = .ok (.ireturn, 1) := by decide +kernel
theorem dX2_takesWalker_0 : decode cX2_takesWalker 0 = .ok (.aload_n 0, 1) := by decide +kernel
theorem dX2_takesWalker_1 : decode cX2_takesWalker 1 = .ok (.getfield 26, 3) := by decide +kernel
theorem dX2_takesWalker_4 : decode cX2_takesWalker 4 = .ok (.iconst 1, 1) := by decide +kernel
theorem dX2_takesWalker_5 : decode cX2_takesWalker 5 = .ok (.isub, 1) := by decide +kernel
theorem dX2_takesWalker_6 : decode cX2_takesWalker 6 = .ok (.istore_n 3, 1) := by decide +kernel
theorem dX2_takesWalker_7 : decode cX2_takesWalker 7 = .ok (.iload_n 1, 1) := by decide +kernel
theorem dX2_takesWalker_8 : decode cX2_takesWalker 8 = .ok (.iload_n 2, 1) := by decide +kernel
theorem dX2_takesWalker_9 : decode cX2_takesWalker 9 = .ok (.if_icmp .ge 16, 3) := by decide +kernel
theorem dX2_takesWalker_12 : decode cX2_takesWalker 12 = .ok (.iload_n 3, 1) := by decide +kernel
theorem dX2_takesWalker_13 : decode cX2_takesWalker 13 = .ok (.ifCond .lt 12, 3) := by decide +kernel
theorem dX2_takesWalker_16 : decode cX2_takesWalker 16 = .ok (.iload_n 3, 1) := by decide +kernel
theorem dX2_takesWalker_17 : decode cX2_takesWalker 17 = .ok (.aload_n 0, 1) := by decide +kernel
theorem dX2_takesWalker_18 : decode cX2_takesWalker 18 = .ok (.getfield 22, 3) := by decide +kernel
theorem dX2_takesWalker_21 : decode cX2_takesWalker 21 = .ok (.arraylength, 1) := by decide +kernel
theorem dX2_takesWalker_22 : decode cX2_takesWalker 22 = .ok (.if_icmp .lt 5, 3) := by decide +kernel
theorem dX2_takesWalker_25 : decode cX2_takesWalker 25 = .ok (.iconst 0, 1) := by decide +kernel
theorem dX2_takesWalker_26 : decode cX2_takesWalker 26 = .ok (.ireturn, 1) := by decide +kernel
theorem dX2_takesWalker_27 : decode cX2_takesWalker 27 = .ok (.aload_n 0, 1) := by decide +kernel
theorem dX2_takesWalker_28 : decode cX2_takesWalker 28 = .ok (.getfield 22, 3) := by decide +kernel
theorem dX2_takesWalker_31 : decode cX2_takesWalker 31 = .ok (.iload_n 3, 1) := by decide +kernel
theorem dX2_takesWalker_32 : decode cX2_takesWalker 32 = .ok (.iload_n 1, 1) := by decide +kernel
theorem dX2_takesWalker_33 : decode cX2_takesWalker 33 = .ok (.iastore, 1) := by decide +kernel
theorem dX2_takesWalker_34 : decode cX2_takesWalker 34 = .ok (.iconst 1, 1) := by decide +kernel
theorem dX2_takesWalker_35 : decode cX2_takesWalker 35 = .ok (.ireturn, 1) := by decide +kernel
theorem dX2_takesDigit_0 : decode cX2_takesDigit 0 = .ok (.aload_n 0, 1) := by decide +kernel
theorem dX2_takesDigit_1 : decode cX2_takesDigit 1 = .ok (.getfield 26, 3) := by decide +kernel
theorem dX2_takesDigit_4 : decode cX2_takesDigit 4 = .ok (.iconst 1, 1) := by decide +kernel
theorem dX2_takesDigit_5 : decode cX2_takesDigit 5 = .ok (.isub, 1) := by decide +kernel
theorem dX2_takesDigit_6 : decode cX2_takesDigit 6 = .ok (.istore_n 2, 1) := by decide +kernel
theorem dX2_takesDigit_7 : decode cX2_takesDigit 7 = .ok (.iload_n 2, 1) := by decide +kernel
theorem dX2_takesDigit_8 : decode cX2_takesDigit 8 = .ok (.ifCond .lt 23, 3) := by decide +kernel
theorem dX2_takesDigit_11 : decode cX2_takesDigit 11 = .ok (.iload_n 2, 1) := by decide +kernel
theorem dX2_takesDigit_12 : decode cX2_takesDigit 12 = .ok (.aload_n 0, 1) := by decide +kernel
theorem dX2_takesDigit_13 : decode cX2_takesDigit 13 = .ok (.getfield 22, 3) := by decide +kernel
theorem dX2_takesDigit_16 : decode cX2_takesDigit 16 = .ok (.arraylength, 1) := by decide +kernel
theorem dX2_takesDigit_17 : decode cX2_takesDigit 17 = .ok (.if_icmp .ge 14, 3) := by decide +kernel
theorem dX2_takesDigit_20 : decode cX2_takesDigit 20 = .ok (.aload_n 0, 1) := by decide +kernel
theorem dX2_takesDigit_21 : decode cX2_takesDigit 21 = .ok (.getfield 19, 3) := by decide +kernel
theorem dX2_takesDigit_24 : decode cX2_takesDigit 24 = .ok (.iload_n 2, 1) := by decide +kernel
theorem dX2_takesDigit_25 : decode cX2_takesDigit 25 = .ok (.caload, 1) := by decide +kernel
theorem dX2_takesDigit_26 : decode cX2_takesDigit 26 = .ok (.bipush 35, 2) := by decide +kernel
theorem dX2_takesDigit_28 : decode cX2_takesDigit 28 = .ok (.if_icmp .ne 5, 3) := by decide +kernel
theorem dX2_takesDigit_31 : decode cX2_takesDigit 31 = .ok (.iconst 0, 1) := by decide +kernel
theorem dX2_takesDigit_32 : decode cX2_takesDigit 32 = .ok (.ireturn, 1) := by decide +kernel
theorem dX2_takesDigit_33 : decode cX2_takesDigit 33 = .ok (.aload_n 0, 1) := by decide +kernel
theorem dX2_takesDigit_34 : decode cX2_takesDigit 34 = .ok (.getfield 22, 3) := by decide +kernel
theorem dX2_takesDigit_37 : decode cX2_takesDigit 37 = .ok (.iload_n 2, 1) := by decide +kernel
theorem dX2_takesDigit_38 : decode cX2_takesDigit 38 = .ok (.iaload, 1) := by decide +kernel
theorem dX2_takesDigit_39 : decode cX2_takesDigit 39 = .ok (.bipush 10, 2) := by decide +kernel
theorem dX2_takesDigit_41 : decode cX2_takesDigit 41 = .ok (.imul, 1) := by decide +kernel
theorem dX2_takesDigit_42 : decode cX2_takesDigit 42 = .ok (.iload_n 1, 1) := by decide +kernel
theorem dX2_takesDigit_43 : decode cX2_takesDigit 43 = .ok (.iadd, 1) := by decide +kernel
theorem dX2_takesDigit_44 : decode cX2_takesDigit 44 = .ok (.istore_n 3, 1) := by decide +kernel
theorem dX2_takesDigit_45 : decode cX2_takesDigit 45 = .ok (.iload_n 3, 1) := by decide +kernel
theorem dX2_takesDigit_46 : decode cX2_takesDigit 46 = .ok (.iconst 1, 1) := by decide +kernel
theorem dX2_takesDigit_47 : decode cX2_takesDigit 47 = .ok (.bipush 50, 2) := by decide +kernel
theorem dX2_takesDigit_49 : decode cX2_takesDigit 49 = .ok (.invokestatic 48, 3) := by decide +kernel
theorem dX2_takesDigit_52 : decode cX2_takesDigit 52 = .ok (.ifCond .ne 5, 3) := by decide +kernel
theorem dX2_takesDigit_55 : decode cX2_takesDigit 55 = .ok (.iconst 0, 1) := by decide +kernel
theorem dX2_takesDigit_56 : decode cX2_takesDigit 56 = .ok (.ireturn, 1) := by decide +kernel
theorem dX2_takesDigit_57 : decode cX2_takesDigit 57 = .ok (.aload_n 0, 1) := by decide +kernel
theorem dX2_takesDigit_58 : decode cX2_takesDigit 58 = .ok (.getfield 22, 3) := by decide +kernel
theorem dX2_takesDigit_61 : decode cX2_takesDigit 61 = .ok (.iload_n 2, 1) := by decide +kernel
theorem dX2_takesDigit_62 : decode cX2_takesDigit 62 = .ok (.iload_n 3, 1) := by decide +kernel
theorem dX2_takesDigit_63 : decode cX2_takesDigit 63 = .ok (.iastore, 1) := by decide +kernel
theorem dX2_takesDigit_64 : decode cX2_takesDigit 64 = .ok (.iconst 1, 1) := by decide +kernel
theorem dX2_takesDigit_65 : decode cX2_takesDigit 65 = .ok (.ireturn, 1) := by decide +kernel
theorem dX2_takesLetter_0 : decode cX2_takesLetter 0 = .ok (.iload_n 1, 1) := by decide +kernel
theorem dX2_takesLetter_1 : decode cX2_takesLetter 1 = .ok (.iload_n 2, 1) := by decide +kernel
theorem dX2_takesLetter_2 : decode cX2_takesLetter 2 = .ok (.invokestatic 52, 3) := by decide +kernel
theorem dX2_takesLetter_5 : decode cX2_takesLetter 5 = .ok (.ifCond .eq 22, 3) := by decide +kernel
theorem dX2_takesLetter_8 : decode cX2_takesLetter 8 = .ok (.aload_n 0, 1) := by decide +kernel
theorem dX2_takesLetter_9 : decode cX2_takesLetter 9 = .ok (.getfield 26, 3) := by decide +kernel
theorem dX2_takesLetter_12 : decode cX2_takesLetter 12 = .ok (.ifCond .lt 15, 3) := by decide +kernel
theorem dX2_takesLetter_15 : decode cX2_takesLetter 15 = .ok (.aload_n 0, 1) := by decide +kernel
theorem dX2_takesLetter_16 : decode cX2_takesLetter 16 = .ok (.getfield 26, 3) := by decide +kernel
theorem dX2_takesLetter_19 : decode cX2_takesLetter 19 = .ok (.aload_n 0, 1) := by decide +kernel
theorem dX2_takesLetter_20 : decode cX2_takesLetter 20 = .ok (.getfield 19, 3) := by decide +kernel
theorem dX2_takesLetter_23 : decode cX2_takesLetter 23 = .ok (.arraylength, 1) := by decide +kernel
theorem dX2_takesLetter_24 : decode cX2_takesLetter 24 = .ok (.if_icmp .lt 5, 3) := by decide +kernel
theorem dX2_takesLetter_27 : decode cX2_takesLetter 27 = .ok (.iconst 0, 1) := by decide +kernel
theorem dX2_takesLetter_28 : decode cX2_takesLetter 28 = .ok (.ireturn, 1) := by decide +kernel
theorem dX2_takesLetter_29 : decode cX2_takesLetter 29 = .ok (.aload_n 0, 1) := by decide +kernel
theorem dX2_takesLetter_30 : decode cX2_takesLetter 30 = .ok (.getfield 19, 3) := by decide +kernel
theorem dX2_takesLetter_33 : decode cX2_takesLetter 33 = .ok (.aload_n 0, 1) := by decide +kernel
theorem dX2_takesLetter_34 : decode cX2_takesLetter 34 = .ok (.getfield 26, 3) := by decide +kernel
theorem dX2_takesLetter_37 : decode cX2_takesLetter 37 = .ok (.iload_n 1, 1) := by decide +kernel
theorem dX2_takesLetter_38 : decode cX2_takesLetter 38 = .ok (.castore, 1) := by decide +kernel
theorem dX2_takesLetter_39 : decode cX2_takesLetter 39 = .ok (.aload_n 0, 1) := by decide +kernel
theorem dX2_takesLetter_40 : decode cX2_takesLetter 40 = .ok (.getfield 22, 3) := by decide +kernel
theorem dX2_takesLetter_43 : decode cX2_takesLetter 43 = .ok (.aload_n 0, 1) := by decide +kernel
theorem dX2_takesLetter_44 : decode cX2_takesLetter 44 = .ok (.getfield 26, 3) := by decide +kernel
theorem dX2_takesLetter_47 : decode cX2_takesLetter 47 = .ok (.iconst 0, 1) := by decide +kernel
theorem dX2_takesLetter_48 : decode cX2_takesLetter 48 = .ok (.iastore, 1) := by decide +kernel
theorem dX2_takesLetter_49 : decode cX2_takesLetter 49 = .ok (.aload_n 0, 1) := by decide +kernel
theorem dX2_takesLetter_50 : decode cX2_takesLetter 50 = .ok (.dup, 1) := by decide +kernel
theorem dX2_takesLetter_51 : decode cX2_takesLetter 51 = .ok (.getfield 26, 3) := by decide +kernel
theorem dX2_takesLetter_54 : decode cX2_takesLetter 54 = .ok (.iconst 1, 1) := by decide +kernel
theorem dX2_takesLetter_55 : decode cX2_takesLetter 55 = .ok (.iadd, 1) := by decide +kernel
theorem dX2_takesLetter_56 : decode cX2_takesLetter 56 = .ok (.putfield 26, 3) := by decide +kernel
theorem dX2_takesLetter_59 : decode cX2_takesLetter 59 = .ok (.aload_n 0, 1) := by decide +kernel
theorem dX2_takesLetter_60 : decode cX2_takesLetter 60 = .ok (.iload_n 1, 1) := by decide +kernel
theorem dX2_takesLetter_61 : decode cX2_takesLetter 61 = .ok (.bipush 35, 2) := by decide +kernel
theorem dX2_takesLetter_63 : decode cX2_takesLetter 63 = .ok (.if_icmp .ne 7, 3) := by decide +kernel
theorem dX2_takesLetter_66 : decode cX2_takesLetter 66 = .ok (.iconst 1, 1) := by decide +kernel
theorem dX2_takesLetter_67 : decode cX2_takesLetter 67 = .ok (.goto 4, 3) := by decide +kernel
theorem dX2_takesLetter_70 : decode cX2_takesLetter 70 = .ok (.iconst 0, 1) := by decide +kernel
theorem dX2_takesLetter_71 : decode cX2_takesLetter 71 = .ok (.putfield 29, 3) := by decide +kernel
theorem dX2_takesLetter_74 : decode cX2_takesLetter 74 = .ok (.iconst 1, 1) := by decide +kernel
theorem dX2_takesLetter_75 : decode cX2_takesLetter 75 = .ok (.ireturn, 1) := by decide +kernel
theorem dX2_isOrder_0 : decode cX2_isOrder 0 = .ok (.iload_n 0, 1) := by decide +kernel
theorem dX2_isOrder_1 : decode cX2_isOrder 1 = .ok (.bipush 114, 2) := by decide +kernel
theorem dX2_isOrder_3 : decode cX2_isOrder 3 = .ok (.if_icmp .eq 9, 3) := by decide +kernel
theorem dX2_isOrder_6 : decode cX2_isOrder 6 = .ok (.iload_n 0, 1) := by decide +kernel
theorem dX2_isOrder_7 : decode cX2_isOrder 7 = .ok (.bipush 35, 2) := by decide +kernel
theorem dX2_isOrder_9 : decode cX2_isOrder 9 = .ok (.if_icmp .ne 5, 3) := by decide +kernel
theorem dX2_isOrder_12 : decode cX2_isOrder 12 = .ok (.iconst 1, 1) := by decide +kernel
theorem dX2_isOrder_13 : decode cX2_isOrder 13 = .ok (.ireturn, 1) := by decide +kernel
theorem dX2_isOrder_14 : decode cX2_isOrder 14 = .ok (.iload_n 0, 1) := by decide +kernel
theorem dX2_isOrder_15 : decode cX2_isOrder 15 = .ok (.bipush 110, 2) := by decide +kernel
theorem dX2_isOrder_17 : decode cX2_isOrder 17 = .ok (.if_icmp .eq 21, 3) := by decide +kernel
theorem dX2_isOrder_20 : decode cX2_isOrder 20 = .ok (.iload_n 0, 1) := by decide +kernel
theorem dX2_isOrder_21 : decode cX2_isOrder 21 = .ok (.bipush 101, 2) := by decide +kernel
theorem dX2_isOrder_23 : decode cX2_isOrder 23 = .ok (.if_icmp .eq 15, 3) := by decide +kernel
theorem dX2_isOrder_26 : decode cX2_isOrder 26 = .ok (.iload_n 0, 1) := by decide +kernel
theorem dX2_isOrder_27 : decode cX2_isOrder 27 = .ok (.bipush 115, 2) := by decide +kernel
theorem dX2_isOrder_29 : decode cX2_isOrder 29 = .ok (.if_icmp .eq 9, 3) := by decide +kernel
theorem dX2_isOrder_32 : decode cX2_isOrder 32 = .ok (.iload_n 0, 1) := by decide +kernel
theorem dX2_isOrder_33 : decode cX2_isOrder 33 = .ok (.bipush 119, 2) := by decide +kernel
theorem dX2_isOrder_35 : decode cX2_isOrder 35 = .ok (.if_icmp .ne 7, 3) := by decide +kernel
theorem dX2_isOrder_38 : decode cX2_isOrder 38 = .ok (.iconst 1, 1) := by decide +kernel
theorem dX2_isOrder_39 : decode cX2_isOrder 39 = .ok (.goto 4, 3) := by decide +kernel
theorem dX2_isOrder_42 : decode cX2_isOrder 42 = .ok (.iconst 0, 1) := by decide +kernel
theorem dX2_isOrder_43 : decode cX2_isOrder 43 = .ok (.istore_n 2, 1) := by decide +kernel
theorem dX2_isOrder_44 : decode cX2_isOrder 44 = .ok (.iload_n 1, 1) := by decide +kernel
theorem dX2_isOrder_45 : decode cX2_isOrder 45 = .ok (.ifCond .le 23, 3) := by decide +kernel
theorem dX2_isOrder_48 : decode cX2_isOrder 48 = .ok (.iload_n 2, 1) := by decide +kernel
theorem dX2_isOrder_49 : decode cX2_isOrder 49 = .ok (.ifCond .ne 15, 3) := by decide +kernel
theorem dX2_isOrder_52 : decode cX2_isOrder 52 = .ok (.iload_n 0, 1) := by decide +kernel
theorem dX2_isOrder_53 : decode cX2_isOrder 53 = .ok (.bipush 103, 2) := by decide +kernel
theorem dX2_isOrder_55 : decode cX2_isOrder 55 = .ok (.if_icmp .eq 9, 3) := by decide +kernel
theorem dX2_isOrder_58 : decode cX2_isOrder 58 = .ok (.iload_n 0, 1) := by decide +kernel
theorem dX2_isOrder_59 : decode cX2_isOrder 59 = .ok (.bipush 100, 2) := by decide +kernel
theorem dX2_isOrder_61 : decode cX2_isOrder 61 = .ok (.if_icmp .ne 7, 3) := by decide +kernel
theorem dX2_isOrder_64 : decode cX2_isOrder 64 = .ok (.iconst 1, 1) := by decide +kernel
theorem dX2_isOrder_65 : decode cX2_isOrder 65 = .ok (.goto 4, 3) := by decide +kernel
theorem dX2_isOrder_68 : decode cX2_isOrder 68 = .ok (.iconst 0, 1) := by decide +kernel
theorem dX2_isOrder_69 : decode cX2_isOrder 69 = .ok (.ireturn, 1) := by decide +kernel
theorem dX2_letterOf_0 : decode cX2_letterOf 0 = .ok (.iload_n 1, 1) := by decide +kernel
theorem dX2_letterOf_1 : decode cX2_letterOf 1 = .ok (.ifCond .lt 29, 3) := by decide +kernel
theorem dX2_letterOf_4 : decode cX2_letterOf 4 = .ok (.iload_n 1, 1) := by decide +kernel
theorem dX2_letterOf_5 : decode cX2_letterOf 5 = .ok (.aload_n 0, 1) := by decide +kernel
theorem dX2_letterOf_6 : decode cX2_letterOf 6 = .ok (.getfield 26, 3) := by decide +kernel
theorem dX2_letterOf_9 : decode cX2_letterOf 9 = .ok (.if_icmp .ge 21, 3) := by decide +kernel
theorem dX2_letterOf_12 : decode cX2_letterOf 12 = .ok (.iload_n 1, 1) := by decide +kernel
theorem dX2_letterOf_13 : decode cX2_letterOf 13 = .ok (.aload_n 0, 1) := by decide +kernel
theorem dX2_letterOf_14 : decode cX2_letterOf 14 = .ok (.getfield 19, 3) := by decide +kernel
theorem dX2_letterOf_17 : decode cX2_letterOf 17 = .ok (.arraylength, 1) := by decide +kernel
theorem dX2_letterOf_18 : decode cX2_letterOf 18 = .ok (.if_icmp .ge 12, 3) := by decide +kernel
theorem dX2_letterOf_21 : decode cX2_letterOf 21 = .ok (.aload_n 0, 1) := by decide +kernel
theorem dX2_letterOf_22 : decode cX2_letterOf 22 = .ok (.getfield 19, 3) := by decide +kernel
theorem dX2_letterOf_25 : decode cX2_letterOf 25 = .ok (.iload_n 1, 1) := by decide +kernel
theorem dX2_letterOf_26 : decode cX2_letterOf 26 = .ok (.caload, 1) := by decide +kernel
theorem dX2_letterOf_27 : decode cX2_letterOf 27 = .ok (.goto 5, 3) := by decide +kernel
theorem dX2_letterOf_30 : decode cX2_letterOf 30 = .ok (.bipush 35, 2) := by decide +kernel
theorem dX2_letterOf_32 : decode cX2_letterOf 32 = .ok (.ireturn, 1) := by decide +kernel
theorem dX2_numberOf_0 : decode cX2_numberOf 0 = .ok (.iload_n 1, 1) := by decide +kernel
theorem dX2_numberOf_1 : decode cX2_numberOf 1 = .ok (.ifCond .lt 20, 3) := by decide +kernel
theorem dX2_numberOf_4 : decode cX2_numberOf 4 = .ok (.iload_n 1, 1) := by decide +kernel
theorem dX2_numberOf_5 : decode cX2_numberOf 5 = .ok (.aload_n 0, 1) := by decide +kernel
theorem dX2_numberOf_6 : decode cX2_numberOf 6 = .ok (.getfield 26, 3) := by decide +kernel
theorem dX2_numberOf_9 : decode cX2_numberOf 9 = .ok (.if_icmp .ge 12, 3) := by decide +kernel
theorem dX2_numberOf_12 : decode cX2_numberOf 12 = .ok (.iload_n 1, 1) := by decide +kernel
theorem dX2_numberOf_13 : decode cX2_numberOf 13 = .ok (.aload_n 0, 1) := by decide +kernel
theorem dX2_numberOf_14 : decode cX2_numberOf 14 = .ok (.getfield 22, 3) := by decide +kernel
theorem dX2_numberOf_17 : decode cX2_numberOf 17 = .ok (.arraylength, 1) := by decide +kernel
theorem dX2_numberOf_18 : decode cX2_numberOf 18 = .ok (.if_icmp .lt 5, 3) := by decide +kernel
theorem dX2_numberOf_21 : decode cX2_numberOf 21 = .ok (.iconst 0, 1) := by decide +kernel
theorem dX2_numberOf_22 : decode cX2_numberOf 22 = .ok (.ireturn, 1) := by decide +kernel
theorem dX2_numberOf_23 : decode cX2_numberOf 23 = .ok (.aload_n 0, 1) := by decide +kernel
theorem dX2_numberOf_24 : decode cX2_numberOf 24 = .ok (.getfield 19, 3) := by decide +kernel
theorem dX2_numberOf_27 : decode cX2_numberOf 27 = .ok (.iload_n 1, 1) := by decide +kernel
theorem dX2_numberOf_28 : decode cX2_numberOf 28 = .ok (.caload, 1) := by decide +kernel
theorem dX2_numberOf_29 : decode cX2_numberOf 29 = .ok (.bipush 35, 2) := by decide +kernel
theorem dX2_numberOf_31 : decode cX2_numberOf 31 = .ok (.if_icmp .ne 12, 3) := by decide +kernel
theorem dX2_numberOf_34 : decode cX2_numberOf 34 = .ok (.aload_n 0, 1) := by decide +kernel
theorem dX2_numberOf_35 : decode cX2_numberOf 35 = .ok (.getfield 22, 3) := by decide +kernel
theorem dX2_numberOf_38 : decode cX2_numberOf 38 = .ok (.iload_n 1, 1) := by decide +kernel
theorem dX2_numberOf_39 : decode cX2_numberOf 39 = .ok (.iaload, 1) := by decide +kernel
theorem dX2_numberOf_40 : decode cX2_numberOf 40 = .ok (.goto 13, 3) := by decide +kernel
theorem dX2_numberOf_43 : decode cX2_numberOf 43 = .ok (.aload_n 0, 1) := by decide +kernel
theorem dX2_numberOf_44 : decode cX2_numberOf 44 = .ok (.getfield 22, 3) := by decide +kernel
theorem dX2_numberOf_47 : decode cX2_numberOf 47 = .ok (.iload_n 1, 1) := by decide +kernel
theorem dX2_numberOf_48 : decode cX2_numberOf 48 = .ok (.iaload, 1) := by decide +kernel
theorem dX2_numberOf_49 : decode cX2_numberOf 49 = .ok (.iconst 1, 1) := by decide +kernel
theorem dX2_numberOf_50 : decode cX2_numberOf 50 = .ok (.invokestatic 55, 3) := by decide +kernel
theorem dX2_numberOf_53 : decode cX2_numberOf 53 = .ok (.ireturn, 1) := by decide +kernel
theorem dX3_init_0 : decode cX3_init 0 = .ok (.aload_n 0, 1) := by decide +kernel
theorem dX3_init_1 : decode cX3_init 1 = .ok (.invokespecial 1, 3) := by decide +kernel
theorem dX3_init_4 : decode cX3_init 4 = .ok (.aload_n 0, 1) := by decide +kernel
theorem dX3_init_5 : decode cX3_init 5 = .ok (.new 7, 3) := by decide +kernel
theorem dX3_init_8 : decode cX3_init 8 = .ok (.dup, 1) := by decide +kernel
theorem dX3_init_9 : decode cX3_init 9 = .ok (.invokespecial 9, 3) := by decide +kernel
theorem dX3_init_12 : decode cX3_init 12 = .ok (.putfield 10, 3) := by decide +kernel
theorem dX3_init_15 : decode cX3_init 15 = .ok (.aload_n 0, 1) := by decide +kernel
theorem dX3_init_16 : decode cX3_init 16 = .ok (.iconst 0, 1) := by decide +kernel
theorem dX3_init_17 : decode cX3_init 17 = .ok (.putfield 16, 3) := by decide +kernel
theorem dX3_init_20 : decode cX3_init 20 = .ok (.return_, 1) := by decide +kernel
theorem dX4_init_0 : decode cX4_init 0 = .ok (.aload_n 0, 1) := by decide +kernel
theorem dX4_init_1 : decode cX4_init 1 = .ok (.invokespecial 3, 3) := by decide +kernel
theorem dX4_init_4 : decode cX4_init 4 = .ok (.aload_n 0, 1) := by decide +kernel
theorem dX4_init_5 : decode cX4_init 5 = .ok (.bipush 8, 2) := by decide +kernel
theorem dX4_init_7 : decode cX4_init 7 = .ok (.putfield 9, 3) := by decide +kernel
theorem dX4_init_10 : decode cX4_init 10 = .ok (.aload_n 0, 1) := by decide +kernel
theorem dX4_init_11 : decode cX4_init 11 = .ok (.bipush 8, 2) := by decide +kernel
theorem dX4_init_13 : decode cX4_init 13 = .ok (.putfield 15, 3) := by decide +kernel
theorem dX4_init_16 : decode cX4_init 16 = .ok (.aload_n 0, 1) := by decide +kernel
theorem dX4_init_17 : decode cX4_init 17 = .ok (.sipush 256, 3) := by decide +kernel
theorem dX4_init_20 : decode cX4_init 20 = .ok (.newarray .int, 2) := by decide +kernel
theorem dX4_init_22 : decode cX4_init 22 = .ok (.putfield 18, 3) := by decide +kernel
theorem dX4_init_25 : decode cX4_init 25 = .ok (.aload_n 0, 1) := by decide +kernel
theorem dX4_init_26 : decode cX4_init 26 = .ok (.bipush 8, 2) := by decide +kernel
theorem dX4_init_28 : decode cX4_init 28 = .ok (.anewarray 22, 3) := by decide +kernel
theorem dX4_init_31 : decode cX4_init 31 = .ok (.putfield 24, 3) := by decide +kernel
theorem dX4_init_34 : decode cX4_init 34 = .ok (.aload_n 0, 1) := by decide +kernel
theorem dX4_init_35 : decode cX4_init 35 = .ok (.iconst 0, 1) := by decide +kernel
theorem dX4_init_36 : decode cX4_init 36 = .ok (.putfield 28, 3) := by decide +kernel
theorem dX4_init_39 : decode cX4_init 39 = .ok (.aload_n 0, 1) := by decide +kernel
theorem dX4_init_40 : decode cX4_init 40 = .ok (.new 31, 3) := by decide +kernel
theorem dX4_init_43 : decode cX4_init 43 = .ok (.dup, 1) := by decide +kernel
theorem dX4_init_44 : decode cX4_init 44 = .ok (.invokespecial 33, 3) := by decide +kernel
theorem dX4_init_47 : decode cX4_init 47 = .ok (.putfield 34, 3) := by decide +kernel
theorem dX4_init_50 : decode cX4_init 50 = .ok (.aload_n 0, 1) := by decide +kernel
theorem dX4_init_51 : decode cX4_init 51 = .ok (.iconst 0, 1) := by decide +kernel
theorem dX4_init_52 : decode cX4_init 52 = .ok (.putfield 38, 3) := by decide +kernel
theorem dX4_init_55 : decode cX4_init 55 = .ok (.aload_n 0, 1) := by decide +kernel
theorem dX4_init_56 : decode cX4_init 56 = .ok (.iconst 0, 1) := by decide +kernel
theorem dX4_init_57 : decode cX4_init 57 = .ok (.putfield 41, 3) := by decide +kernel
theorem dX4_init_60 : decode cX4_init 60 = .ok (.iconst 0, 1) := by decide +kernel
theorem dX4_init_61 : decode cX4_init 61 = .ok (.istore_n 1, 1) := by decide +kernel
theorem dX4_init_62 : decode cX4_init 62 = .ok (.iload_n 1, 1) := by decide +kernel
theorem dX4_init_63 : decode cX4_init 63 = .ok (.bipush 8, 2) := by decide +kernel
theorem dX4_init_65 : decode cX4_init 65 = .ok (.if_icmp .ge 22, 3) := by decide +kernel
theorem dX4_init_68 : decode cX4_init 68 = .ok (.aload_n 0, 1) := by decide +kernel
theorem dX4_init_69 : decode cX4_init 69 = .ok (.getfield 24, 3) := by decide +kernel
theorem dX4_init_72 : decode cX4_init 72 = .ok (.iload_n 1, 1) := by decide +kernel
theorem dX4_init_73 : decode cX4_init 73 = .ok (.new 22, 3) := by decide +kernel
theorem dX4_init_76 : decode cX4_init 76 = .ok (.dup, 1) := by decide +kernel
theorem dX4_init_77 : decode cX4_init 77 = .ok (.invokespecial 44, 3) := by decide +kernel
theorem dX4_init_80 : decode cX4_init 80 = .ok (.aastore, 1) := by decide +kernel
theorem dX4_init_81 : decode cX4_init 81 = .ok (.iinc 1 1, 3) := by decide +kernel
theorem dX4_init_84 : decode cX4_init 84 = .ok (.goto (-22), 3) := by decide +kernel
theorem dX4_init_87 : decode cX4_init 87 = .ok (.return_, 1) := by decide +kernel
theorem dX4_copyFrom_0 : decode cX4_copyFrom 0 = .ok (.aload_n 0, 1) := by decide +kernel
theorem dX4_copyFrom_1 : decode cX4_copyFrom 1 = .ok (.aload_n 1, 1) := by decide +kernel
theorem dX4_copyFrom_2 : decode cX4_copyFrom 2 = .ok (.getfield 9, 3) := by decide +kernel
theorem dX4_copyFrom_5 : decode cX4_copyFrom 5 = .ok (.putfield 9, 3) := by decide +kernel
theorem dX4_copyFrom_8 : decode cX4_copyFrom 8 = .ok (.aload_n 0, 1) := by decide +kernel
theorem dX4_copyFrom_9 : decode cX4_copyFrom 9 = .ok (.aload_n 1, 1) := by decide +kernel
theorem dX4_copyFrom_10 : decode cX4_copyFrom 10 = .ok (.getfield 15, 3) := by decide +kernel
theorem dX4_copyFrom_13 : decode cX4_copyFrom 13 = .ok (.putfield 15, 3) := by decide +kernel
theorem dX4_copyFrom_16 : decode cX4_copyFrom 16 = .ok (.aload_n 1, 1) := by decide +kernel
theorem dX4_copyFrom_17 : decode cX4_copyFrom 17 = .ok (.getfield 18, 3) := by decide +kernel
theorem dX4_copyFrom_20 : decode cX4_copyFrom 20 = .ok (.iconst 0, 1) := by decide +kernel
theorem dX4_copyFrom_21 : decode cX4_copyFrom 21 = .ok (.aload_n 0, 1) := by decide +kernel
theorem dX4_copyFrom_22 : decode cX4_copyFrom 22 = .ok (.getfield 18, 3) := by decide +kernel
theorem dX4_copyFrom_25 : decode cX4_copyFrom 25 = .ok (.iconst 0, 1) := by decide +kernel
theorem dX4_copyFrom_26 : decode cX4_copyFrom 26 = .ok (.sipush 256, 3) := by decide +kernel
theorem dX4_copyFrom_29 : decode cX4_copyFrom 29 = .ok (.invokestatic 45, 3) := by decide +kernel
theorem dX4_copyFrom_32 : decode cX4_copyFrom 32 = .ok (.aload_n 0, 1) := by decide +kernel
theorem dX4_copyFrom_33 : decode cX4_copyFrom 33 = .ok (.aload_n 1, 1) := by decide +kernel
theorem dX4_copyFrom_34 : decode cX4_copyFrom 34 = .ok (.getfield 28, 3) := by decide +kernel
theorem dX4_copyFrom_37 : decode cX4_copyFrom 37 = .ok (.putfield 28, 3) := by decide +kernel
theorem dX4_copyFrom_40 : decode cX4_copyFrom 40 = .ok (.iconst 0, 1) := by decide +kernel
theorem dX4_copyFrom_41 : decode cX4_copyFrom 41 = .ok (.istore_n 2, 1) := by decide +kernel
theorem dX4_copyFrom_42 : decode cX4_copyFrom 42 = .ok (.iload_n 2, 1) := by decide +kernel
theorem dX4_copyFrom_43 : decode cX4_copyFrom 43 = .ok (.aload_n 0, 1) := by decide +kernel
theorem dX4_copyFrom_44 : decode cX4_copyFrom 44 = .ok (.getfield 28, 3) := by decide +kernel
theorem dX4_copyFrom_47 : decode cX4_copyFrom 47 = .ok (.if_icmp .ge 37, 3) := by decide +kernel
theorem dX4_copyFrom_50 : decode cX4_copyFrom 50 = .ok (.aload_n 0, 1) := by decide +kernel
theorem dX4_copyFrom_51 : decode cX4_copyFrom 51 = .ok (.iload_n 2, 1) := by decide +kernel
theorem dX4_copyFrom_52 : decode cX4_copyFrom 52 = .ok (.invokevirtual 51, 3) := by decide +kernel
theorem dX4_copyFrom_55 : decode cX4_copyFrom 55 = .ok (.astore_n 3, 1) := by decide +kernel
theorem dX4_copyFrom_56 : decode cX4_copyFrom 56 = .ok (.aload_n 1, 1) := by decide +kernel
theorem dX4_copyFrom_57 : decode cX4_copyFrom 57 = .ok (.iload_n 2, 1) := by decide +kernel
theorem dX4_copyFrom_58 : decode cX4_copyFrom 58 = .ok (.invokevirtual 51, 3) := by decide +kernel
theorem dX4_copyFrom_61 : decode cX4_copyFrom 61 = .ok (.astore 4, 2) := by decide +kernel
theorem dX4_copyFrom_63 : decode cX4_copyFrom 63 = .ok (.aload_n 3, 1) := by decide +kernel
theorem dX4_copyFrom_64 : decode cX4_copyFrom 64 = .ok (.ifnull 14, 3) := by decide +kernel
theorem dX4_copyFrom_67 : decode cX4_copyFrom 67 = .ok (.aload 4, 2) := by decide +kernel
theorem dX4_copyFrom_69 : decode cX4_copyFrom 69 = .ok (.ifnull 9, 3) := by decide +kernel
theorem dX4_copyFrom_72 : decode cX4_copyFrom 72 = .ok (.aload_n 3, 1) := by decide +kernel
theorem dX4_copyFrom_73 : decode cX4_copyFrom 73 = .ok (.aload 4, 2) := by decide +kernel
theorem dX4_copyFrom_75 : decode cX4_copyFrom 75 = .ok (.invokevirtual 55, 3) := by decide +kernel
theorem dX4_copyFrom_78 : decode cX4_copyFrom 78 = .ok (.iinc 2 1, 3) := by decide +kernel
theorem dX4_copyFrom_81 : decode cX4_copyFrom 81 = .ok (.goto (-39), 3) := by decide +kernel
theorem dX4_copyFrom_84 : decode cX4_copyFrom 84 = .ok (.aload_n 0, 1) := by decide +kernel
theorem dX4_copyFrom_85 : decode cX4_copyFrom 85 = .ok (.getfield 34, 3) := by decide +kernel
theorem dX4_copyFrom_88 : decode cX4_copyFrom 88 = .ok (.aload_n 1, 1) := by decide +kernel
theorem dX4_copyFrom_89 : decode cX4_copyFrom 89 = .ok (.getfield 34, 3) := by decide +kernel
theorem dX4_copyFrom_92 : decode cX4_copyFrom 92 = .ok (.invokevirtual 59, 3) := by decide +kernel
theorem dX4_copyFrom_95 : decode cX4_copyFrom 95 = .ok (.aload_n 0, 1) := by decide +kernel
theorem dX4_copyFrom_96 : decode cX4_copyFrom 96 = .ok (.aload_n 1, 1) := by decide +kernel
theorem dX4_copyFrom_97 : decode cX4_copyFrom 97 = .ok (.getfield 38, 3) := by decide +kernel
theorem dX4_copyFrom_100 : decode cX4_copyFrom 100 = .ok (.putfield 38, 3) := by decide +kernel
theorem dX4_copyFrom_103 : decode cX4_copyFrom 103 = .ok (.aload_n 0, 1) := by decide +kernel
theorem dX4_copyFrom_104 : decode cX4_copyFrom 104 = .ok (.aload_n 1, 1) := by decide +kernel
theorem dX4_copyFrom_105 : decode cX4_copyFrom 105 = .ok (.getfield 41, 3) := by decide +kernel
theorem dX4_copyFrom_108 : decode cX4_copyFrom 108 = .ok (.putfield 41, 3) := by decide +kernel
theorem dX4_copyFrom_111 : decode cX4_copyFrom 111 = .ok (.return_, 1) := by decide +kernel
theorem dX4_hasCell_0 : decode cX4_hasCell 0 = .ok (.iload_n 1, 1) := by decide +kernel
theorem dX4_hasCell_1 : decode cX4_hasCell 1 = .ok (.ifCond .lt 27, 3) := by decide +kernel
theorem dX4_hasCell_4 : decode cX4_hasCell 4 = .ok (.iload_n 1, 1) := by decide +kernel
theorem dX4_hasCell_5 : decode cX4_hasCell 5 = .ok (.aload_n 0, 1) := by decide +kernel
theorem dX4_hasCell_6 : decode cX4_hasCell 6 = .ok (.getfield 9, 3) := by decide +kernel
theorem dX4_hasCell_9 : decode cX4_hasCell 9 = .ok (.if_icmp .ge 19, 3) := by decide +kernel
theorem dX4_hasCell_12 : decode cX4_hasCell 12 = .ok (.iload_n 2, 1) := by decide +kernel
theorem dX4_hasCell_13 : decode cX4_hasCell 13 = .ok (.ifCond .lt 15, 3) := by decide +kernel
theorem dX4_hasCell_16 : decode cX4_hasCell 16 = .ok (.iload_n 2, 1) := by decide +kernel
theorem dX4_hasCell_17 : decode cX4_hasCell 17 = .ok (.aload_n 0, 1) := by decide +kernel
theorem dX4_hasCell_18 : decode cX4_hasCell 18 = .ok (.getfield 15, 3) := by decide +kernel
theorem dX4_hasCell_21 : decode cX4_hasCell 21 = .ok (.if_icmp .ge 7, 3) := by decide +kernel
theorem dX4_hasCell_24 : decode cX4_hasCell 24 = .ok (.iconst 1, 1) := by decide +kernel
theorem dX4_hasCell_25 : decode cX4_hasCell 25 = .ok (.goto 4, 3) := by decide +kernel
theorem dX4_hasCell_28 : decode cX4_hasCell 28 = .ok (.iconst 0, 1) := by decide +kernel
theorem dX4_hasCell_29 : decode cX4_hasCell 29 = .ok (.ireturn, 1) := by decide +kernel
theorem dX4_cellAt_0 : decode cX4_cellAt 0 = .ok (.aload_n 0, 1) := by decide +kernel
theorem dX4_cellAt_1 : decode cX4_cellAt 1 = .ok (.iload_n 1, 1) := by decide +kernel
theorem dX4_cellAt_2 : decode cX4_cellAt 2 = .ok (.iload_n 2, 1) := by decide +kernel
theorem dX4_cellAt_3 : decode cX4_cellAt 3 = .ok (.invokevirtual 62, 3) := by decide +kernel
theorem dX4_cellAt_6 : decode cX4_cellAt 6 = .ok (.ifCond .eq 12, 3) := by decide +kernel
theorem dX4_cellAt_9 : decode cX4_cellAt 9 = .ok (.iload_n 1, 1) := by decide +kernel
theorem dX4_cellAt_10 : decode cX4_cellAt 10 = .ok (.bipush 16, 2) := by decide +kernel
theorem dX4_cellAt_12 : decode cX4_cellAt 12 = .ok (.imul, 1) := by decide +kernel
theorem dX4_cellAt_13 : decode cX4_cellAt 13 = .ok (.iload_n 2, 1) := by decide +kernel
theorem dX4_cellAt_14 : decode cX4_cellAt 14 = .ok (.iadd, 1) := by decide +kernel
theorem dX4_cellAt_15 : decode cX4_cellAt 15 = .ok (.goto 4, 3) := by decide +kernel
theorem dX4_cellAt_18 : decode cX4_cellAt 18 = .ok (.iconst (-1), 1) := by decide +kernel
theorem dX4_cellAt_19 : decode cX4_cellAt 19 = .ok (.ireturn, 1) := by decide +kernel
theorem dX4_chipsOf_0 : decode cX4_chipsOf 0 = .ok (.iload_n 1, 1) := by decide +kernel
theorem dX4_chipsOf_1 : decode cX4_chipsOf 1 = .ok (.ifCond .lt 21, 3) := by decide +kernel
theorem dX4_chipsOf_4 : decode cX4_chipsOf 4 = .ok (.iload_n 1, 1) := by decide +kernel
theorem dX4_chipsOf_5 : decode cX4_chipsOf 5 = .ok (.aload_n 0, 1) := by decide +kernel
theorem dX4_chipsOf_6 : decode cX4_chipsOf 6 = .ok (.getfield 18, 3) := by decide +kernel
theorem dX4_chipsOf_9 : decode cX4_chipsOf 9 = .ok (.arraylength, 1) := by decide +kernel
theorem dX4_chipsOf_10 : decode cX4_chipsOf 10 = .ok (.if_icmp .ge 12, 3) := by decide +kernel
theorem dX4_chipsOf_13 : decode cX4_chipsOf 13 = .ok (.aload_n 0, 1) := by decide +kernel
theorem dX4_chipsOf_14 : decode cX4_chipsOf 14 = .ok (.getfield 18, 3) := by decide +kernel
theorem dX4_chipsOf_17 : decode cX4_chipsOf 17 = .ok (.iload_n 1, 1) := by decide +kernel
theorem dX4_chipsOf_18 : decode cX4_chipsOf 18 = .ok (.iaload, 1) := by decide +kernel
theorem dX4_chipsOf_19 : decode cX4_chipsOf 19 = .ok (.goto 4, 3) := by decide +kernel
theorem dX4_chipsOf_22 : decode cX4_chipsOf 22 = .ok (.iconst 0, 1) := by decide +kernel
theorem dX4_chipsOf_23 : decode cX4_chipsOf 23 = .ok (.ireturn, 1) := by decide +kernel
theorem dX4_walkerAt_0 : decode cX4_walkerAt 0 = .ok (.iload_n 1, 1) := by decide +kernel
theorem dX4_walkerAt_1 : decode cX4_walkerAt 1 = .ok (.ifCond .lt 20, 3) := by decide +kernel
theorem dX4_walkerAt_4 : decode cX4_walkerAt 4 = .ok (.iload_n 1, 1) := by decide +kernel
theorem dX4_walkerAt_5 : decode cX4_walkerAt 5 = .ok (.aload_n 0, 1) := by decide +kernel
theorem dX4_walkerAt_6 : decode cX4_walkerAt 6 = .ok (.getfield 28, 3) := by decide +kernel
theorem dX4_walkerAt_9 : decode cX4_walkerAt 9 = .ok (.if_icmp .ge 12, 3) := by decide +kernel
theorem dX4_walkerAt_12 : decode cX4_walkerAt 12 = .ok (.iload_n 1, 1) := by decide +kernel
theorem dX4_walkerAt_13 : decode cX4_walkerAt 13 = .ok (.aload_n 0, 1) := by decide +kernel
theorem dX4_walkerAt_14 : decode cX4_walkerAt 14 = .ok (.getfield 24, 3) := by decide +kernel
theorem dX4_walkerAt_17 : decode cX4_walkerAt 17 = .ok (.arraylength, 1) := by decide +kernel
theorem dX4_walkerAt_18 : decode cX4_walkerAt 18 = .ok (.if_icmp .lt 5, 3) := by decide +kernel
theorem dX4_walkerAt_21 : decode cX4_walkerAt 21 = .ok (.aconst_null, 1) := by decide +kernel
theorem dX4_walkerAt_22 : decode cX4_walkerAt 22 = .ok (.areturn, 1) := by decide +kernel
theorem dX4_walkerAt_23 : decode cX4_walkerAt 23 = .ok (.aload_n 0, 1) := by decide +kernel
theorem dX4_walkerAt_24 : decode cX4_walkerAt 24 = .ok (.getfield 24, 3) := by decide +kernel
theorem dX4_walkerAt_27 : decode cX4_walkerAt 27 = .ok (.iload_n 1, 1) := by decide +kernel
theorem dX4_walkerAt_28 : decode cX4_walkerAt 28 = .ok (.aaload, 1) := by decide +kernel
theorem dX4_walkerAt_29 : decode cX4_walkerAt 29 = .ok (.areturn, 1) := by decide +kernel
theorem dX4_allChips_0 : decode cX4_allChips 0 = .ok (.iconst 0, 1) := by decide +kernel
theorem dX4_allChips_1 : decode cX4_allChips 1 = .ok (.istore_n 1, 1) := by decide +kernel
theorem dX4_allChips_2 : decode cX4_allChips 2 = .ok (.iconst 0, 1) := by decide +kernel
theorem dX4_allChips_3 : decode cX4_allChips 3 = .ok (.istore_n 2, 1) := by decide +kernel
theorem dX4_allChips_4 : decode cX4_allChips 4 = .ok (.iload_n 2, 1) := by decide +kernel
theorem dX4_allChips_5 : decode cX4_allChips 5 = .ok (.aload_n 0, 1) := by decide +kernel
theorem dX4_allChips_6 : decode cX4_allChips 6 = .ok (.getfield 18, 3) := by decide +kernel
theorem dX4_allChips_9 : decode cX4_allChips 9 = .ok (.arraylength, 1) := by decide +kernel
theorem dX4_allChips_10 : decode cX4_allChips 10 = .ok (.if_icmp .ge 18, 3) := by decide +kernel
theorem dX4_allChips_13 : decode cX4_allChips 13 = .ok (.iload_n 1, 1) := by decide +kernel
theorem dX4_allChips_14 : decode cX4_allChips 14 = .ok (.aload_n 0, 1) := by decide +kernel
theorem dX4_allChips_15 : decode cX4_allChips 15 = .ok (.getfield 18, 3) := by decide +kernel
theorem dX4_allChips_18 : decode cX4_allChips 18 = .ok (.iload_n 2, 1) := by decide +kernel
theorem dX4_allChips_19 : decode cX4_allChips 19 = .ok (.iaload, 1) := by decide +kernel
theorem dX4_allChips_20 : decode cX4_allChips 20 = .ok (.iadd, 1) := by decide +kernel
theorem dX4_allChips_21 : decode cX4_allChips 21 = .ok (.istore_n 1, 1) := by decide +kernel
theorem dX4_allChips_22 : decode cX4_allChips 22 = .ok (.iinc 2 1, 3) := by decide +kernel
theorem dX4_allChips_25 : decode cX4_allChips 25 = .ok (.goto (-21), 3) := by decide +kernel
theorem dX4_allChips_28 : decode cX4_allChips 28 = .ok (.iload_n 1, 1) := by decide +kernel
theorem dX4_allChips_29 : decode cX4_allChips 29 = .ok (.ireturn, 1) := by decide +kernel
theorem dX4_allPockets_0 : decode cX4_allPockets 0 = .ok (.iconst 0, 1) := by decide +kernel
theorem dX4_allPockets_1 : decode cX4_allPockets 1 = .ok (.istore_n 1, 1) := by decide +kernel
theorem dX4_allPockets_2 : decode cX4_allPockets 2 = .ok (.iconst 0, 1) := by decide +kernel
theorem dX4_allPockets_3 : decode cX4_allPockets 3 = .ok (.istore_n 2, 1) := by decide +kernel
theorem dX4_allPockets_4 : decode cX4_allPockets 4 = .ok (.iload_n 2, 1) := by decide +kernel
theorem dX4_allPockets_5 : decode cX4_allPockets 5 = .ok (.aload_n 0, 1) := by decide +kernel
theorem dX4_allPockets_6 : decode cX4_allPockets 6 = .ok (.getfield 28, 3) := by decide +kernel
theorem dX4_allPockets_9 : decode cX4_allPockets 9 = .ok (.if_icmp .ge 30, 3) := by decide +kernel
theorem dX4_allPockets_12 : decode cX4_allPockets 12 = .ok (.aload_n 0, 1) := by decide +kernel
theorem dX4_allPockets_13 : decode cX4_allPockets 13 = .ok (.iload_n 2, 1) := by decide +kernel
theorem dX4_allPockets_14 : decode cX4_allPockets 14 = .ok (.invokevirtual 51, 3) := by decide +kernel
theorem dX4_allPockets_17 : decode cX4_allPockets 17 = .ok (.astore_n 3, 1) := by decide +kernel
theorem dX4_allPockets_18 : decode cX4_allPockets 18 = .ok (.iload_n 1, 1) := by decide +kernel
theorem dX4_allPockets_19 : decode cX4_allPockets 19 = .ok (.aload_n 3, 1) := by decide +kernel
theorem dX4_allPockets_20 : decode cX4_allPockets 20 = .ok (.ifnonnull 7, 3) := by decide +kernel
theorem dX4_allPockets_23 : decode cX4_allPockets 23 = .ok (.iconst 0, 1) := by decide +kernel
theorem dX4_allPockets_24 : decode cX4_allPockets 24 = .ok (.goto 7, 3) := by decide +kernel
theorem dX4_allPockets_27 : decode cX4_allPockets 27 = .ok (.aload_n 3, 1) := by decide +kernel
theorem dX4_allPockets_28 : decode cX4_allPockets 28 = .ok (.getfield 66, 3) := by decide +kernel
theorem dX4_allPockets_31 : decode cX4_allPockets 31 = .ok (.iadd, 1) := by decide +kernel
theorem dX4_allPockets_32 : decode cX4_allPockets 32 = .ok (.istore_n 1, 1) := by decide +kernel
theorem dX4_allPockets_33 : decode cX4_allPockets 33 = .ok (.iinc 2 1, 3) := by decide +kernel
theorem dX4_allPockets_36 : decode cX4_allPockets 36 = .ok (.goto (-32), 3) := by decide +kernel
theorem dX4_allPockets_39 : decode cX4_allPockets 39 = .ok (.iload_n 1, 1) := by decide +kernel
theorem dX4_allPockets_40 : decode cX4_allPockets 40 = .ok (.ireturn, 1) := by decide +kernel
theorem dX4_allSteps_0 : decode cX4_allSteps 0 = .ok (.iconst 0, 1) := by decide +kernel
theorem dX4_allSteps_1 : decode cX4_allSteps 1 = .ok (.istore_n 1, 1) := by decide +kernel
theorem dX4_allSteps_2 : decode cX4_allSteps 2 = .ok (.iconst 0, 1) := by decide +kernel
theorem dX4_allSteps_3 : decode cX4_allSteps 3 = .ok (.istore_n 2, 1) := by decide +kernel
theorem dX4_allSteps_4 : decode cX4_allSteps 4 = .ok (.iload_n 2, 1) := by decide +kernel
theorem dX4_allSteps_5 : decode cX4_allSteps 5 = .ok (.aload_n 0, 1) := by decide +kernel
theorem dX4_allSteps_6 : decode cX4_allSteps 6 = .ok (.getfield 28, 3) := by decide +kernel
theorem dX4_allSteps_9 : decode cX4_allSteps 9 = .ok (.if_icmp .ge 30, 3) := by decide +kernel
theorem dX4_allSteps_12 : decode cX4_allSteps 12 = .ok (.aload_n 0, 1) := by decide +kernel
theorem dX4_allSteps_13 : decode cX4_allSteps 13 = .ok (.iload_n 2, 1) := by decide +kernel
theorem dX4_allSteps_14 : decode cX4_allSteps 14 = .ok (.invokevirtual 51, 3) := by decide +kernel
theorem dX4_allSteps_17 : decode cX4_allSteps 17 = .ok (.astore_n 3, 1) := by decide +kernel
theorem dX4_allSteps_18 : decode cX4_allSteps 18 = .ok (.iload_n 1, 1) := by decide +kernel
theorem dX4_allSteps_19 : decode cX4_allSteps 19 = .ok (.aload_n 3, 1) := by decide +kernel
theorem dX4_allSteps_20 : decode cX4_allSteps 20 = .ok (.ifnonnull 7, 3) := by decide +kernel
theorem dX4_allSteps_23 : decode cX4_allSteps 23 = .ok (.iconst 0, 1) := by decide +kernel
theorem dX4_allSteps_24 : decode cX4_allSteps 24 = .ok (.goto 7, 3) := by decide +kernel
theorem dX4_allSteps_27 : decode cX4_allSteps 27 = .ok (.aload_n 3, 1) := by decide +kernel
theorem dX4_allSteps_28 : decode cX4_allSteps 28 = .ok (.getfield 69, 3) := by decide +kernel
theorem dX4_allSteps_31 : decode cX4_allSteps 31 = .ok (.iadd, 1) := by decide +kernel
theorem dX4_allSteps_32 : decode cX4_allSteps 32 = .ok (.istore_n 1, 1) := by decide +kernel
theorem dX4_allSteps_33 : decode cX4_allSteps 33 = .ok (.iinc 2 1, 3) := by decide +kernel
theorem dX4_allSteps_36 : decode cX4_allSteps 36 = .ok (.goto (-32), 3) := by decide +kernel
theorem dX4_allSteps_39 : decode cX4_allSteps 39 = .ok (.iload_n 1, 1) := by decide +kernel
theorem dX4_allSteps_40 : decode cX4_allSteps 40 = .ok (.ireturn, 1) := by decide +kernel
theorem dX5_init_0 : decode cX5_init 0 = .ok (.aload_n 0, 1) := by decide +kernel
theorem dX5_init_1 : decode cX5_init 1 = .ok (.invokespecial 3, 3) := by decide +kernel
theorem dX5_init_4 : decode cX5_init 4 = .ok (.aload_n 0, 1) := by decide +kernel
theorem dX5_init_5 : decode cX5_init 5 = .ok (.bipush 30, 2) := by decide +kernel
theorem dX5_init_7 : decode cX5_init 7 = .ok (.newarray .int, 2) := by decide +kernel
theorem dX5_init_9 : decode cX5_init 9 = .ok (.putfield 9, 3) := by decide +kernel
theorem dX5_init_12 : decode cX5_init 12 = .ok (.aload_n 0, 1) := by decide +kernel
theorem dX5_init_13 : decode cX5_init 13 = .ok (.iconst 1, 1) := by decide +kernel
theorem dX5_init_14 : decode cX5_init 14 = .ok (.putfield 15, 3) := by decide +kernel
theorem dX5_init_17 : decode cX5_init 17 = .ok (.aload_n 0, 1) := by decide +kernel
theorem dX5_init_18 : decode cX5_init 18 = .ok (.iconst 0, 1) := by decide +kernel
theorem dX5_init_19 : decode cX5_init 19 = .ok (.putfield 19, 3) := by decide +kernel
theorem dX5_init_22 : decode cX5_init 22 = .ok (.aload_n 0, 1) := by decide +kernel
theorem dX5_init_23 : decode cX5_init 23 = .ok (.iconst 1, 1) := by decide +kernel
theorem dX5_init_24 : decode cX5_init 24 = .ok (.putfield 22, 3) := by decide +kernel
theorem dX5_init_27 : decode cX5_init 27 = .ok (.return_, 1) := by decide +kernel
theorem dX5_begin_0 : decode cX5_begin 0 = .ok (.aload_n 0, 1) := by decide +kernel
theorem dX5_begin_1 : decode cX5_begin 1 = .ok (.getfield 9, 3) := by decide +kernel
theorem dX5_begin_4 : decode cX5_begin 4 = .ok (.iconst 0, 1) := by decide +kernel
theorem dX5_begin_5 : decode cX5_begin 5 = .ok (.iconst 0, 1) := by decide +kernel
theorem dX5_begin_6 : decode cX5_begin 6 = .ok (.iastore, 1) := by decide +kernel
theorem dX5_begin_7 : decode cX5_begin 7 = .ok (.aload_n 0, 1) := by decide +kernel
theorem dX5_begin_8 : decode cX5_begin 8 = .ok (.iconst 1, 1) := by decide +kernel
theorem dX5_begin_9 : decode cX5_begin 9 = .ok (.putfield 15, 3) := by decide +kernel
theorem dX5_begin_12 : decode cX5_begin 12 = .ok (.aload_n 0, 1) := by decide +kernel
theorem dX5_begin_13 : decode cX5_begin 13 = .ok (.iconst 0, 1) := by decide +kernel
theorem dX5_begin_14 : decode cX5_begin 14 = .ok (.putfield 19, 3) := by decide +kernel
theorem dX5_begin_17 : decode cX5_begin 17 = .ok (.aload_n 0, 1) := by decide +kernel
theorem dX5_begin_18 : decode cX5_begin 18 = .ok (.iconst 1, 1) := by decide +kernel
theorem dX5_begin_19 : decode cX5_begin 19 = .ok (.putfield 22, 3) := by decide +kernel
theorem dX5_begin_22 : decode cX5_begin 22 = .ok (.return_, 1) := by decide +kernel
theorem dX5_append_0 : decode cX5_append 0 = .ok (.aload_n 0, 1) := by decide +kernel
theorem dX5_append_1 : decode cX5_append 1 = .ok (.getfield 22, 3) := by decide +kernel
theorem dX5_append_4 : decode cX5_append 4 = .ok (.ifCond .eq 13, 3) := by decide +kernel
theorem dX5_append_7 : decode cX5_append 7 = .ok (.aload_n 0, 1) := by decide +kernel
theorem dX5_append_8 : decode cX5_append 8 = .ok (.iconst 0, 1) := by decide +kernel
theorem dX5_append_9 : decode cX5_append 9 = .ok (.putfield 15, 3) := by decide +kernel
theorem dX5_append_12 : decode cX5_append 12 = .ok (.aload_n 0, 1) := by decide +kernel
theorem dX5_append_13 : decode cX5_append 13 = .ok (.iconst 0, 1) := by decide +kernel
theorem dX5_append_14 : decode cX5_append 14 = .ok (.putfield 22, 3) := by decide +kernel
theorem dX5_append_17 : decode cX5_append 17 = .ok (.aload_n 0, 1) := by decide +kernel
theorem dX5_append_18 : decode cX5_append 18 = .ok (.getfield 15, 3) := by decide +kernel
theorem dX5_append_21 : decode cX5_append 21 = .ok (.ifCond .lt 35, 3) := by decide +kernel
theorem dX5_append_24 : decode cX5_append 24 = .ok (.aload_n 0, 1) := by decide +kernel
theorem dX5_append_25 : decode cX5_append 25 = .ok (.getfield 15, 3) := by decide +kernel
theorem dX5_append_28 : decode cX5_append 28 = .ok (.aload_n 0, 1) := by decide +kernel
theorem dX5_append_29 : decode cX5_append 29 = .ok (.getfield 9, 3) := by decide +kernel
theorem dX5_append_32 : decode cX5_append 32 = .ok (.arraylength, 1) := by decide +kernel
theorem dX5_append_33 : decode cX5_append 33 = .ok (.if_icmp .ge 23, 3) := by decide +kernel
theorem dX5_append_36 : decode cX5_append 36 = .ok (.aload_n 0, 1) := by decide +kernel
theorem dX5_append_37 : decode cX5_append 37 = .ok (.getfield 9, 3) := by decide +kernel
theorem dX5_append_40 : decode cX5_append 40 = .ok (.aload_n 0, 1) := by decide +kernel
theorem dX5_append_41 : decode cX5_append 41 = .ok (.getfield 15, 3) := by decide +kernel
theorem dX5_append_44 : decode cX5_append 44 = .ok (.iload_n 1, 1) := by decide +kernel
theorem dX5_append_45 : decode cX5_append 45 = .ok (.iastore, 1) := by decide +kernel
theorem dX5_append_46 : decode cX5_append 46 = .ok (.aload_n 0, 1) := by decide +kernel
theorem dX5_append_47 : decode cX5_append 47 = .ok (.dup, 1) := by decide +kernel
theorem dX5_append_48 : decode cX5_append 48 = .ok (.getfield 15, 3) := by decide +kernel
theorem dX5_append_51 : decode cX5_append 51 = .ok (.iconst 1, 1) := by decide +kernel
theorem dX5_append_52 : decode cX5_append 52 = .ok (.iadd, 1) := by decide +kernel
theorem dX5_append_53 : decode cX5_append 53 = .ok (.putfield 15, 3) := by decide +kernel
theorem dX5_append_56 : decode cX5_append 56 = .ok (.aload_n 0, 1) := by decide +kernel
theorem dX5_append_57 : decode cX5_append 57 = .ok (.iconst 0, 1) := by decide +kernel
theorem dX5_append_58 : decode cX5_append 58 = .ok (.putfield 19, 3) := by decide +kernel
theorem dX5_append_61 : decode cX5_append 61 = .ok (.return_, 1) := by decide +kernel
theorem dX5_takeNext_0 : decode cX5_takeNext 0 = .ok (.aload_n 0, 1) := by decide +kernel
theorem dX5_takeNext_1 : decode cX5_takeNext 1 = .ok (.getfield 19, 3) := by decide +kernel
theorem dX5_takeNext_4 : decode cX5_takeNext 4 = .ok (.ifCond .lt 15, 3) := by decide +kernel
theorem dX5_takeNext_7 : decode cX5_takeNext 7 = .ok (.aload_n 0, 1) := by decide +kernel
theorem dX5_takeNext_8 : decode cX5_takeNext 8 = .ok (.getfield 19, 3) := by decide +kernel
theorem dX5_takeNext_11 : decode cX5_takeNext 11 = .ok (.aload_n 0, 1) := by decide +kernel
theorem dX5_takeNext_12 : decode cX5_takeNext 12 = .ok (.getfield 9, 3) := by decide +kernel
theorem dX5_takeNext_15 : decode cX5_takeNext 15 = .ok (.arraylength, 1) := by decide +kernel
theorem dX5_takeNext_16 : decode cX5_takeNext 16 = .ok (.if_icmp .lt 5, 3) := by decide +kernel
theorem dX5_takeNext_19 : decode cX5_takeNext 19 = .ok (.iconst 0, 1) := by decide +kernel
theorem dX5_takeNext_20 : decode cX5_takeNext 20 = .ok (.ireturn, 1) := by decide +kernel
theorem dX5_takeNext_21 : decode cX5_takeNext 21 = .ok (.aload_n 0, 1) := by decide +kernel
theorem dX5_takeNext_22 : decode cX5_takeNext 22 = .ok (.getfield 9, 3) := by decide +kernel
theorem dX5_takeNext_25 : decode cX5_takeNext 25 = .ok (.aload_n 0, 1) := by decide +kernel
theorem dX5_takeNext_26 : decode cX5_takeNext 26 = .ok (.getfield 19, 3) := by decide +kernel
theorem dX5_takeNext_29 : decode cX5_takeNext 29 = .ok (.iaload, 1) := by decide +kernel
theorem dX5_takeNext_30 : decode cX5_takeNext 30 = .ok (.istore_n 1, 1) := by decide +kernel
theorem dX5_takeNext_31 : decode cX5_takeNext 31 = .ok (.aload_n 0, 1) := by decide +kernel
theorem dX5_takeNext_32 : decode cX5_takeNext 32 = .ok (.dup, 1) := by decide +kernel
theorem dX5_takeNext_33 : decode cX5_takeNext 33 = .ok (.getfield 19, 3) := by decide +kernel
theorem dX5_takeNext_36 : decode cX5_takeNext 36 = .ok (.iconst 1, 1) := by decide +kernel
theorem dX5_takeNext_37 : decode cX5_takeNext 37 = .ok (.iadd, 1) := by decide +kernel
theorem dX5_takeNext_38 : decode cX5_takeNext 38 = .ok (.putfield 19, 3) := by decide +kernel
theorem dX5_takeNext_41 : decode cX5_takeNext 41 = .ok (.aload_n 0, 1) := by decide +kernel
theorem dX5_takeNext_42 : decode cX5_takeNext 42 = .ok (.getfield 19, 3) := by decide +kernel
theorem dX5_takeNext_45 : decode cX5_takeNext 45 = .ok (.aload_n 0, 1) := by decide +kernel
theorem dX5_takeNext_46 : decode cX5_takeNext 46 = .ok (.getfield 15, 3) := by decide +kernel
theorem dX5_takeNext_49 : decode cX5_takeNext 49 = .ok (.if_icmp .lt 8, 3) := by decide +kernel
theorem dX5_takeNext_52 : decode cX5_takeNext 52 = .ok (.aload_n 0, 1) := by decide +kernel
theorem dX5_takeNext_53 : decode cX5_takeNext 53 = .ok (.iconst 0, 1) := by decide +kernel
theorem dX5_takeNext_54 : decode cX5_takeNext 54 = .ok (.putfield 19, 3) := by decide +kernel
theorem dX5_takeNext_57 : decode cX5_takeNext 57 = .ok (.iload_n 1, 1) := by decide +kernel
theorem dX5_takeNext_58 : decode cX5_takeNext 58 = .ok (.ireturn, 1) := by decide +kernel
theorem dX5_copyFrom_0 : decode cX5_copyFrom 0 = .ok (.aload_n 1, 1) := by decide +kernel
theorem dX5_copyFrom_1 : decode cX5_copyFrom 1 = .ok (.getfield 9, 3) := by decide +kernel
theorem dX5_copyFrom_4 : decode cX5_copyFrom 4 = .ok (.iconst 0, 1) := by decide +kernel
theorem dX5_copyFrom_5 : decode cX5_copyFrom 5 = .ok (.aload_n 0, 1) := by decide +kernel
theorem dX5_copyFrom_6 : decode cX5_copyFrom 6 = .ok (.getfield 9, 3) := by decide +kernel
theorem dX5_copyFrom_9 : decode cX5_copyFrom 9 = .ok (.iconst 0, 1) := by decide +kernel
theorem dX5_copyFrom_10 : decode cX5_copyFrom 10 = .ok (.bipush 30, 2) := by decide +kernel
theorem dX5_copyFrom_12 : decode cX5_copyFrom 12 = .ok (.invokestatic 26, 3) := by decide +kernel
theorem dX5_copyFrom_15 : decode cX5_copyFrom 15 = .ok (.aload_n 0, 1) := by decide +kernel
theorem dX5_copyFrom_16 : decode cX5_copyFrom 16 = .ok (.aload_n 1, 1) := by decide +kernel
theorem dX5_copyFrom_17 : decode cX5_copyFrom 17 = .ok (.getfield 15, 3) := by decide +kernel
theorem dX5_copyFrom_20 : decode cX5_copyFrom 20 = .ok (.putfield 15, 3) := by decide +kernel
theorem dX5_copyFrom_23 : decode cX5_copyFrom 23 = .ok (.aload_n 0, 1) := by decide +kernel
theorem dX5_copyFrom_24 : decode cX5_copyFrom 24 = .ok (.aload_n 1, 1) := by decide +kernel
theorem dX5_copyFrom_25 : decode cX5_copyFrom 25 = .ok (.getfield 19, 3) := by decide +kernel
theorem dX5_copyFrom_28 : decode cX5_copyFrom 28 = .ok (.putfield 19, 3) := by decide +kernel
theorem dX5_copyFrom_31 : decode cX5_copyFrom 31 = .ok (.aload_n 0, 1) := by decide +kernel
theorem dX5_copyFrom_32 : decode cX5_copyFrom 32 = .ok (.aload_n 1, 1) := by decide +kernel
theorem dX5_copyFrom_33 : decode cX5_copyFrom 33 = .ok (.getfield 22, 3) := by decide +kernel
theorem dX5_copyFrom_36 : decode cX5_copyFrom 36 = .ok (.putfield 22, 3) := by decide +kernel
theorem dX5_copyFrom_39 : decode cX5_copyFrom 39 = .ok (.return_, 1) := by decide +kernel
theorem dX6_init_0 : decode cX6_init 0 = .ok (.aload_n 0, 1) := by decide +kernel
theorem dX6_init_1 : decode cX6_init 1 = .ok (.invokespecial 3, 3) := by decide +kernel
theorem dX6_init_4 : decode cX6_init 4 = .ok (.return_, 1) := by decide +kernel
theorem dX6_begin_0 : decode cX6_begin 0 = .ok (.aload_n 0, 1) := by decide +kernel
theorem dX6_begin_1 : decode cX6_begin 1 = .ok (.iload_n 1, 1) := by decide +kernel
theorem dX6_begin_2 : decode cX6_begin 2 = .ok (.putfield 9, 3) := by decide +kernel
theorem dX6_begin_5 : decode cX6_begin 5 = .ok (.aload_n 0, 1) := by decide +kernel
theorem dX6_begin_6 : decode cX6_begin 6 = .ok (.iload_n 2, 1) := by decide +kernel
theorem dX6_begin_7 : decode cX6_begin 7 = .ok (.putfield 15, 3) := by decide +kernel
theorem dX6_begin_10 : decode cX6_begin 10 = .ok (.aload_n 0, 1) := by decide +kernel
theorem dX6_begin_11 : decode cX6_begin 11 = .ok (.iload_n 3, 1) := by decide +kernel
theorem dX6_begin_12 : decode cX6_begin 12 = .ok (.putfield 18, 3) := by decide +kernel
theorem dX6_begin_15 : decode cX6_begin 15 = .ok (.aload_n 0, 1) := by decide +kernel
theorem dX6_begin_16 : decode cX6_begin 16 = .ok (.iconst 0, 1) := by decide +kernel
theorem dX6_begin_17 : decode cX6_begin 17 = .ok (.putfield 21, 3) := by decide +kernel
theorem dX6_begin_20 : decode cX6_begin 20 = .ok (.aload_n 0, 1) := by decide +kernel
theorem dX6_begin_21 : decode cX6_begin 21 = .ok (.iload 5, 2) := by decide +kernel
theorem dX6_begin_23 : decode cX6_begin 23 = .ok (.putfield 24, 3) := by decide +kernel
theorem dX6_begin_26 : decode cX6_begin 26 = .ok (.aload_n 0, 1) := by decide +kernel
theorem dX6_begin_27 : decode cX6_begin 27 = .ok (.iload 4, 2) := by decide +kernel
theorem dX6_begin_29 : decode cX6_begin 29 = .ok (.putfield 27, 3) := by decide +kernel
theorem dX6_begin_32 : decode cX6_begin 32 = .ok (.aload_n 0, 1) := by decide +kernel
theorem dX6_begin_33 : decode cX6_begin 33 = .ok (.iconst 0, 1) := by decide +kernel
theorem dX6_begin_34 : decode cX6_begin 34 = .ok (.putfield 30, 3) := by decide +kernel
theorem dX6_begin_37 : decode cX6_begin 37 = .ok (.aload_n 0, 1) := by decide +kernel
theorem dX6_begin_38 : decode cX6_begin 38 = .ok (.iconst 0, 1) := by decide +kernel
theorem dX6_begin_39 : decode cX6_begin 39 = .ok (.putfield 33, 3) := by decide +kernel
theorem dX6_begin_42 : decode cX6_begin 42 = .ok (.aload_n 0, 1) := by decide +kernel
theorem dX6_begin_43 : decode cX6_begin 43 = .ok (.iconst 0, 1) := by decide +kernel
theorem dX6_begin_44 : decode cX6_begin 44 = .ok (.putfield 36, 3) := by decide +kernel
theorem dX6_begin_47 : decode cX6_begin 47 = .ok (.return_, 1) := by decide +kernel
theorem dX6_cell_0 : decode cX6_cell 0 = .ok (.aload_n 0, 1) := by decide +kernel
theorem dX6_cell_1 : decode cX6_cell 1 = .ok (.getfield 9, 3) := by decide +kernel
theorem dX6_cell_4 : decode cX6_cell 4 = .ok (.bipush 16, 2) := by decide +kernel
theorem dX6_cell_6 : decode cX6_cell 6 = .ok (.imul, 1) := by decide +kernel
theorem dX6_cell_7 : decode cX6_cell 7 = .ok (.aload_n 0, 1) := by decide +kernel
theorem dX6_cell_8 : decode cX6_cell 8 = .ok (.getfield 15, 3) := by decide +kernel
theorem dX6_cell_11 : decode cX6_cell 11 = .ok (.iadd, 1) := by decide +kernel
theorem dX6_cell_12 : decode cX6_cell 12 = .ok (.ireturn, 1) := by decide +kernel
theorem dX6_copyFrom_0 : decode cX6_copyFrom 0 = .ok (.aload_n 0, 1) := by decide +kernel
theorem dX6_copyFrom_1 : decode cX6_copyFrom 1 = .ok (.aload_n 1, 1) := by decide +kernel
theorem dX6_copyFrom_2 : decode cX6_copyFrom 2 = .ok (.getfield 9, 3) := by decide +kernel
theorem dX6_copyFrom_5 : decode cX6_copyFrom 5 = .ok (.putfield 9, 3) := by decide +kernel
theorem dX6_copyFrom_8 : decode cX6_copyFrom 8 = .ok (.aload_n 0, 1) := by decide +kernel
theorem dX6_copyFrom_9 : decode cX6_copyFrom 9 = .ok (.aload_n 1, 1) := by decide +kernel
theorem dX6_copyFrom_10 : decode cX6_copyFrom 10 = .ok (.getfield 15, 3) := by decide +kernel
theorem dX6_copyFrom_13 : decode cX6_copyFrom 13 = .ok (.putfield 15, 3) := by decide +kernel
theorem dX6_copyFrom_16 : decode cX6_copyFrom 16 = .ok (.aload_n 0, 1) := by decide +kernel
theorem dX6_copyFrom_17 : decode cX6_copyFrom 17 = .ok (.aload_n 1, 1) := by decide +kernel
theorem dX6_copyFrom_18 : decode cX6_copyFrom 18 = .ok (.getfield 18, 3) := by decide +kernel
theorem dX6_copyFrom_21 : decode cX6_copyFrom 21 = .ok (.putfield 18, 3) := by decide +kernel
theorem dX6_copyFrom_24 : decode cX6_copyFrom 24 = .ok (.aload_n 0, 1) := by decide +kernel
theorem dX6_copyFrom_25 : decode cX6_copyFrom 25 = .ok (.aload_n 1, 1) := by decide +kernel
theorem dX6_copyFrom_26 : decode cX6_copyFrom 26 = .ok (.getfield 21, 3) := by decide +kernel
theorem dX6_copyFrom_29 : decode cX6_copyFrom 29 = .ok (.putfield 21, 3) := by decide +kernel
theorem dX6_copyFrom_32 : decode cX6_copyFrom 32 = .ok (.aload_n 0, 1) := by decide +kernel
theorem dX6_copyFrom_33 : decode cX6_copyFrom 33 = .ok (.aload_n 1, 1) := by decide +kernel
theorem dX6_copyFrom_34 : decode cX6_copyFrom 34 = .ok (.getfield 24, 3) := by decide +kernel
theorem dX6_copyFrom_37 : decode cX6_copyFrom 37 = .ok (.putfield 24, 3) := by decide +kernel
theorem dX6_copyFrom_40 : decode cX6_copyFrom 40 = .ok (.aload_n 0, 1) := by decide +kernel
theorem dX6_copyFrom_41 : decode cX6_copyFrom 41 = .ok (.aload_n 1, 1) := by decide +kernel
theorem dX6_copyFrom_42 : decode cX6_copyFrom 42 = .ok (.getfield 27, 3) := by decide +kernel
theorem dX6_copyFrom_45 : decode cX6_copyFrom 45 = .ok (.putfield 27, 3) := by decide +kernel
theorem dX6_copyFrom_48 : decode cX6_copyFrom 48 = .ok (.aload_n 0, 1) := by decide +kernel
theorem dX6_copyFrom_49 : decode cX6_copyFrom 49 = .ok (.aload_n 1, 1) := by decide +kernel
theorem dX6_copyFrom_50 : decode cX6_copyFrom 50 = .ok (.getfield 30, 3) := by decide +kernel
theorem dX6_copyFrom_53 : decode cX6_copyFrom 53 = .ok (.putfield 30, 3) := by decide +kernel
theorem dX6_copyFrom_56 : decode cX6_copyFrom 56 = .ok (.aload_n 0, 1) := by decide +kernel
theorem dX6_copyFrom_57 : decode cX6_copyFrom 57 = .ok (.aload_n 1, 1) := by decide +kernel
theorem dX6_copyFrom_58 : decode cX6_copyFrom 58 = .ok (.getfield 33, 3) := by decide +kernel
theorem dX6_copyFrom_61 : decode cX6_copyFrom 61 = .ok (.putfield 33, 3) := by decide +kernel
theorem dX6_copyFrom_64 : decode cX6_copyFrom 64 = .ok (.aload_n 0, 1) := by decide +kernel
theorem dX6_copyFrom_65 : decode cX6_copyFrom 65 = .ok (.aload_n 1, 1) := by decide +kernel
theorem dX6_copyFrom_66 : decode cX6_copyFrom 66 = .ok (.getfield 36, 3) := by decide +kernel
theorem dX6_copyFrom_69 : decode cX6_copyFrom 69 = .ok (.putfield 36, 3) := by decide +kernel
theorem dX6_copyFrom_72 : decode cX6_copyFrom 72 = .ok (.return_, 1) := by decide +kernel
theorem dX7_init_0 : decode cX7_init 0 = .ok (.aload_n 0, 1) := by decide +kernel
theorem dX7_init_1 : decode cX7_init 1 = .ok (.invokespecial 3, 3) := by decide +kernel
theorem dX7_init_4 : decode cX7_init 4 = .ok (.aload_n 0, 1) := by decide +kernel
theorem dX7_init_5 : decode cX7_init 5 = .ok (.new 9, 3) := by decide +kernel
theorem dX7_init_8 : decode cX7_init 8 = .ok (.dup, 1) := by decide +kernel
theorem dX7_init_9 : decode cX7_init 9 = .ok (.invokespecial 11, 3) := by decide +kernel
theorem dX7_init_12 : decode cX7_init 12 = .ok (.putfield 12, 3) := by decide +kernel
theorem dX7_init_15 : decode cX7_init 15 = .ok (.aload_n 0, 1) := by decide +kernel
theorem dX7_init_16 : decode cX7_init 16 = .ok (.new 18, 3) := by decide +kernel
theorem dX7_init_19 : decode cX7_init 19 = .ok (.dup, 1) := by decide +kernel
theorem dX7_init_20 : decode cX7_init 20 = .ok (.invokespecial 20, 3) := by decide +kernel
theorem dX7_init_23 : decode cX7_init 23 = .ok (.putfield 21, 3) := by decide +kernel
theorem dX7_init_26 : decode cX7_init 26 = .ok (.return_, 1) := by decide +kernel
theorem dX7_load_0 : decode cX7_load 0 = .ok (.aload_n 0, 1) := by decide +kernel
theorem dX7_load_1 : decode cX7_load 1 = .ok (.getfield 12, 3) := by decide +kernel
theorem dX7_load_4 : decode cX7_load 4 = .ok (.aload_n 1, 1) := by decide +kernel
theorem dX7_load_5 : decode cX7_load 5 = .ok (.invokevirtual 25, 3) := by decide +kernel
theorem dX7_load_8 : decode cX7_load 8 = .ok (.aload_n 0, 1) := by decide +kernel
theorem dX7_load_9 : decode cX7_load 9 = .ok (.getfield 21, 3) := by decide +kernel
theorem dX7_load_12 : decode cX7_load 12 = .ok (.invokevirtual 29, 3) := by decide +kernel
theorem dX7_load_15 : decode cX7_load 15 = .ok (.return_, 1) := by decide +kernel
theorem dX7_clearBoard_0 : decode cX7_clearBoard 0 = .ok (.aload_n 0, 1) := by decide +kernel
theorem dX7_clearBoard_1 : decode cX7_clearBoard 1 = .ok (.getfield 12, 3) := by decide +kernel
theorem dX7_clearBoard_4 : decode cX7_clearBoard 4 = .ok (.iload_n 1, 1) := by decide +kernel
theorem dX7_clearBoard_5 : decode cX7_clearBoard 5 = .ok (.putfield 32, 3) := by decide +kernel
theorem dX7_clearBoard_8 : decode cX7_clearBoard 8 = .ok (.aload_n 0, 1) := by decide +kernel
theorem dX7_clearBoard_9 : decode cX7_clearBoard 9 = .ok (.getfield 12, 3) := by decide +kernel
theorem dX7_clearBoard_12 : decode cX7_clearBoard 12 = .ok (.iload_n 2, 1) := by decide +kernel
theorem dX7_clearBoard_13 : decode cX7_clearBoard 13 = .ok (.putfield 36, 3) := by decide +kernel
theorem dX7_clearBoard_16 : decode cX7_clearBoard 16 = .ok (.aload_n 0, 1) := by decide +kernel
theorem dX7_clearBoard_17 : decode cX7_clearBoard 17 = .ok (.getfield 12, 3) := by decide +kernel
theorem dX7_clearBoard_20 : decode cX7_clearBoard 20 = .ok (.getfield 39, 3) := by decide +kernel
theorem dX7_clearBoard_23 : decode cX7_clearBoard 23 = .ok (.iconst 0, 1) := by decide +kernel
theorem dX7_clearBoard_24 : decode cX7_clearBoard 24 = .ok (.invokestatic 43, 3) := by decide +kernel
theorem dX7_clearBoard_27 : decode cX7_clearBoard 27 = .ok (.aload_n 0, 1) := by decide +kernel
theorem dX7_clearBoard_28 : decode cX7_clearBoard 28 = .ok (.getfield 12, 3) := by decide +kernel
theorem dX7_clearBoard_31 : decode cX7_clearBoard 31 = .ok (.iconst 0, 1) := by decide +kernel
theorem dX7_clearBoard_32 : decode cX7_clearBoard 32 = .ok (.putfield 49, 3) := by decide +kernel
theorem dX7_clearBoard_35 : decode cX7_clearBoard 35 = .ok (.aload_n 0, 1) := by decide +kernel
theorem dX7_clearBoard_36 : decode cX7_clearBoard 36 = .ok (.getfield 12, 3) := by decide +kernel
theorem dX7_clearBoard_39 : decode cX7_clearBoard 39 = .ok (.iconst 0, 1) := by decide +kernel
theorem dX7_clearBoard_40 : decode cX7_clearBoard 40 = .ok (.putfield 52, 3) := by decide +kernel
theorem dX7_clearBoard_43 : decode cX7_clearBoard 43 = .ok (.aload_n 0, 1) := by decide +kernel
theorem dX7_clearBoard_44 : decode cX7_clearBoard 44 = .ok (.getfield 12, 3) := by decide +kernel
theorem dX7_clearBoard_47 : decode cX7_clearBoard 47 = .ok (.iconst 0, 1) := by decide +kernel
theorem dX7_clearBoard_48 : decode cX7_clearBoard 48 = .ok (.putfield 55, 3) := by decide +kernel
theorem dX7_clearBoard_51 : decode cX7_clearBoard 51 = .ok (.aload_n 0, 1) := by decide +kernel
theorem dX7_clearBoard_52 : decode cX7_clearBoard 52 = .ok (.getfield 21, 3) := by decide +kernel
theorem dX7_clearBoard_55 : decode cX7_clearBoard 55 = .ok (.invokevirtual 29, 3) := by decide +kernel
theorem dX7_clearBoard_58 : decode cX7_clearBoard 58 = .ok (.return_, 1) := by decide +kernel
theorem dX7_setChips_0 : decode cX7_setChips 0 = .ok (.iload_n 1, 1) := by decide +kernel
theorem dX7_setChips_1 : decode cX7_setChips 1 = .ok (.ifCond .lt 10, 3) := by decide +kernel
theorem dX7_setChips_4 : decode cX7_setChips 4 = .ok (.iload_n 1, 1) := by decide +kernel
theorem dX7_setChips_5 : decode cX7_setChips 5 = .ok (.sipush 256, 3) := by decide +kernel
theorem dX7_setChips_8 : decode cX7_setChips 8 = .ok (.if_icmp .lt 4, 3) := by decide +kernel
theorem dX7_setChips_11 : decode cX7_setChips 11 = .ok (.return_, 1) := by decide +kernel
theorem dX7_setChips_12 : decode cX7_setChips 12 = .ok (.aload_n 0, 1) := by decide +kernel
theorem dX7_setChips_13 : decode cX7_setChips 13 = .ok (.getfield 12, 3) := by decide +kernel
theorem dX7_setChips_16 : decode cX7_setChips 16 = .ok (.getfield 39, 3) := by decide +kernel
theorem dX7_setChips_19 : decode cX7_setChips 19 = .ok (.iload_n 1, 1) := by decide +kernel
theorem dX7_setChips_20 : decode cX7_setChips 20 = .ok (.iaload, 1) := by decide +kernel
theorem dX7_setChips_21 : decode cX7_setChips 21 = .ok (.istore_n 3, 1) := by decide +kernel
theorem dX7_setChips_22 : decode cX7_setChips 22 = .ok (.aload_n 0, 1) := by decide +kernel
theorem dX7_setChips_23 : decode cX7_setChips 23 = .ok (.getfield 12, 3) := by decide +kernel
theorem dX7_setChips_26 : decode cX7_setChips 26 = .ok (.getfield 39, 3) := by decide +kernel
theorem dX7_setChips_29 : decode cX7_setChips 29 = .ok (.iload_n 1, 1) := by decide +kernel
theorem dX7_setChips_30 : decode cX7_setChips 30 = .ok (.iload_n 2, 1) := by decide +kernel
theorem dX7_setChips_31 : decode cX7_setChips 31 = .ok (.iastore, 1) := by decide +kernel
theorem dX7_setChips_32 : decode cX7_setChips 32 = .ok (.aload_n 0, 1) := by decide +kernel
theorem dX7_setChips_33 : decode cX7_setChips 33 = .ok (.getfield 21, 3) := by decide +kernel
theorem dX7_setChips_36 : decode cX7_setChips 36 = .ok (.iload_n 1, 1) := by decide +kernel
theorem dX7_setChips_37 : decode cX7_setChips 37 = .ok (.iload_n 3, 1) := by decide +kernel
theorem dX7_setChips_38 : decode cX7_setChips 38 = .ok (.iload_n 2, 1) := by decide +kernel
theorem dX7_setChips_39 : decode cX7_setChips 39 = .ok (.invokevirtual 58, 3) := by decide +kernel
theorem dX7_setChips_42 : decode cX7_setChips 42 = .ok (.return_, 1) := by decide +kernel
theorem dX7_chipsUnder_0 : decode cX7_chipsUnder 0 = .ok (.aload_n 0, 1) := by decide +kernel
theorem dX7_chipsUnder_1 : decode cX7_chipsUnder 1 = .ok (.getfield 12, 3) := by decide +kernel
theorem dX7_chipsUnder_4 : decode cX7_chipsUnder 4 = .ok (.aload_n 1, 1) := by decide +kernel
theorem dX7_chipsUnder_5 : decode cX7_chipsUnder 5 = .ok (.invokevirtual 62, 3) := by decide +kernel
theorem dX7_chipsUnder_8 : decode cX7_chipsUnder 8 = .ok (.invokevirtual 68, 3) := by decide +kernel
theorem dX7_chipsUnder_11 : decode cX7_chipsUnder 11 = .ok (.ireturn, 1) := by decide +kernel
theorem dX7_strewOver_0 : decode cX7_strewOver 0 = .ok (.iconst 0, 1) := by decide +kernel
theorem dX7_strewOver_1 : decode cX7_strewOver 1 = .ok (.istore 5, 2) := by decide +kernel
theorem dX7_strewOver_3 : decode cX7_strewOver 3 = .ok (.iconst 0, 1) := by decide +kernel
theorem dX7_strewOver_4 : decode cX7_strewOver 4 = .ok (.istore 6, 2) := by decide +kernel
theorem dX7_strewOver_6 : decode cX7_strewOver 6 = .ok (.iload 6, 2) := by decide +kernel
theorem dX7_strewOver_8 : decode cX7_strewOver 8 = .ok (.aload_n 0, 1) := by decide +kernel
theorem dX7_strewOver_9 : decode cX7_strewOver 9 = .ok (.getfield 12, 3) := by decide +kernel
theorem dX7_strewOver_12 : decode cX7_strewOver 12 = .ok (.getfield 32, 3) := by decide +kernel
theorem dX7_strewOver_15 : decode cX7_strewOver 15 = .ok (.if_icmp .ge 97, 3) := by decide +kernel
theorem dX7_strewOver_18 : decode cX7_strewOver 18 = .ok (.iconst 0, 1) := by decide +kernel
theorem dX7_strewOver_19 : decode cX7_strewOver 19 = .ok (.istore 7, 2) := by decide +kernel
theorem dX7_strewOver_21 : decode cX7_strewOver 21 = .ok (.iload 7, 2) := by decide +kernel
theorem dX7_strewOver_23 : decode cX7_strewOver 23 = .ok (.aload_n 0, 1) := by decide +kernel
theorem dX7_strewOver_24 : decode cX7_strewOver 24 = .ok (.getfield 12, 3) := by decide +kernel
theorem dX7_strewOver_27 : decode cX7_strewOver 27 = .ok (.getfield 36, 3) := by decide +kernel
theorem dX7_strewOver_30 : decode cX7_strewOver 30 = .ok (.if_icmp .ge 76, 3) := by decide +kernel
theorem dX7_strewOver_33 : decode cX7_strewOver 33 = .ok (.aload_n 0, 1) := by decide +kernel
theorem dX7_strewOver_34 : decode cX7_strewOver 34 = .ok (.getfield 12, 3) := by decide +kernel
theorem dX7_strewOver_37 : decode cX7_strewOver 37 = .ok (.iload 6, 2) := by decide +kernel
theorem dX7_strewOver_39 : decode cX7_strewOver 39 = .ok (.iload 7, 2) := by decide +kernel
theorem dX7_strewOver_41 : decode cX7_strewOver 41 = .ok (.invokevirtual 72, 3) := by decide +kernel
theorem dX7_strewOver_44 : decode cX7_strewOver 44 = .ok (.istore 8, 2) := by decide +kernel
theorem dX7_strewOver_46 : decode cX7_strewOver 46 = .ok (.aload_n 0, 1) := by decide +kernel
theorem dX7_strewOver_47 : decode cX7_strewOver 47 = .ok (.getfield 12, 3) := by decide +kernel
theorem dX7_strewOver_50 : decode cX7_strewOver 50 = .ok (.iload 8, 2) := by decide +kernel
theorem dX7_strewOver_52 : decode cX7_strewOver 52 = .ok (.invokevirtual 68, 3) := by decide +kernel
theorem dX7_strewOver_55 : decode cX7_strewOver 55 = .ok (.istore 9, 2) := by decide +kernel
theorem dX7_strewOver_57 : decode cX7_strewOver 57 = .ok (.iload_n 3, 1) := by decide +kernel
theorem dX7_strewOver_58 : decode cX7_strewOver 58 = .ok (.ifCond .le 42, 3) := by decide +kernel
theorem dX7_strewOver_61 : decode cX7_strewOver 61 = .ok (.iload 6, 2) := by decide +kernel
theorem dX7_strewOver_63 : decode cX7_strewOver 63 = .ok (.iload_n 1, 1) := by decide +kernel
theorem dX7_strewOver_64 : decode cX7_strewOver 64 = .ok (.imul, 1) := by decide +kernel
theorem dX7_strewOver_65 : decode cX7_strewOver 65 = .ok (.iload 7, 2) := by decide +kernel
theorem dX7_strewOver_67 : decode cX7_strewOver 67 = .ok (.iload_n 2, 1) := by decide +kernel
theorem dX7_strewOver_68 : decode cX7_strewOver 68 = .ok (.imul, 1) := by decide +kernel
theorem dX7_strewOver_69 : decode cX7_strewOver 69 = .ok (.iadd, 1) := by decide +kernel
theorem dX7_strewOver_70 : decode cX7_strewOver 70 = .ok (.iload_n 3, 1) := by decide +kernel
theorem dX7_strewOver_71 : decode cX7_strewOver 71 = .ok (.irem, 1) := by decide +kernel
theorem dX7_strewOver_72 : decode cX7_strewOver 72 = .ok (.ifCond .ne 28, 3) := by decide +kernel
theorem dX7_strewOver_75 : decode cX7_strewOver 75 = .ok (.iload 9, 2) := by decide +kernel
theorem dX7_strewOver_77 : decode cX7_strewOver 77 = .ok (.bipush 99, 2) := by decide +kernel
theorem dX7_strewOver_79 : decode cX7_strewOver 79 = .ok (.if_icmp .ge 21, 3) := by decide +kernel
theorem dX7_strewOver_82 : decode cX7_strewOver 82 = .ok (.iinc 5 1, 3) := by decide +kernel
theorem dX7_strewOver_85 : decode cX7_strewOver 85 = .ok (.iload 4, 2) := by decide +kernel
theorem dX7_strewOver_87 : decode cX7_strewOver 87 = .ok (.ifCond .eq 13, 3) := by decide +kernel
theorem dX7_strewOver_90 : decode cX7_strewOver 90 = .ok (.aload_n 0, 1) := by decide +kernel
theorem dX7_strewOver_91 : decode cX7_strewOver 91 = .ok (.iload 8, 2) := by decide +kernel
theorem dX7_strewOver_93 : decode cX7_strewOver 93 = .ok (.iload 9, 2) := by decide +kernel
theorem dX7_strewOver_95 : decode cX7_strewOver 95 = .ok (.iconst 1, 1) := by decide +kernel
theorem dX7_strewOver_96 : decode cX7_strewOver 96 = .ok (.iadd, 1) := by decide +kernel
theorem dX7_strewOver_97 : decode cX7_strewOver 97 = .ok (.invokevirtual 76, 3) := by decide +kernel
theorem dX7_strewOver_100 : decode cX7_strewOver 100 = .ok (.iinc 7 1, 3) := by decide +kernel
theorem dX7_strewOver_103 : decode cX7_strewOver 103 = .ok (.goto (-82), 3) := by decide +kernel
theorem dX7_strewOver_106 : decode cX7_strewOver 106 = .ok (.iinc 6 1, 3) := by decide +kernel
theorem dX7_strewOver_109 : decode cX7_strewOver 109 = .ok (.goto (-103), 3) := by decide +kernel
theorem dX7_strewOver_112 : decode cX7_strewOver 112 = .ok (.iload 5, 2) := by decide +kernel
theorem dX7_strewOver_114 : decode cX7_strewOver 114 = .ok (.ireturn, 1) := by decide +kernel
theorem dX7_pickUp_0 : decode cX7_pickUp 0 = .ok (.aload_n 0, 1) := by decide +kernel
theorem dX7_pickUp_1 : decode cX7_pickUp 1 = .ok (.aload_n 1, 1) := by decide +kernel
theorem dX7_pickUp_2 : decode cX7_pickUp 2 = .ok (.invokevirtual 62, 3) := by decide +kernel
theorem dX7_pickUp_5 : decode cX7_pickUp 5 = .ok (.aload_n 0, 1) := by decide +kernel
theorem dX7_pickUp_6 : decode cX7_pickUp 6 = .ok (.aload_n 1, 1) := by decide +kernel
theorem dX7_pickUp_7 : decode cX7_pickUp 7 = .ok (.invokevirtual 80, 3) := by decide +kernel
theorem dX7_pickUp_10 : decode cX7_pickUp 10 = .ok (.iload_n 2, 1) := by decide +kernel
theorem dX7_pickUp_11 : decode cX7_pickUp 11 = .ok (.isub, 1) := by decide +kernel
theorem dX7_pickUp_12 : decode cX7_pickUp 12 = .ok (.invokevirtual 76, 3) := by decide +kernel
theorem dX7_pickUp_15 : decode cX7_pickUp 15 = .ok (.aload_n 1, 1) := by decide +kernel
theorem dX7_pickUp_16 : decode cX7_pickUp 16 = .ok (.dup, 1) := by decide +kernel
theorem dX7_pickUp_17 : decode cX7_pickUp 17 = .ok (.getfield 84, 3) := by decide +kernel
theorem dX7_pickUp_20 : decode cX7_pickUp 20 = .ok (.iload_n 2, 1) := by decide +kernel
theorem dX7_pickUp_21 : decode cX7_pickUp 21 = .ok (.iadd, 1) := by decide +kernel
theorem dX7_pickUp_22 : decode cX7_pickUp 22 = .ok (.putfield 84, 3) := by decide +kernel
theorem dX7_pickUp_25 : decode cX7_pickUp 25 = .ok (.iload_n 2, 1) := by decide +kernel
theorem dX7_pickUp_26 : decode cX7_pickUp 26 = .ok (.ifCond .le 16, 3) := by decide +kernel
theorem dX7_pickUp_29 : decode cX7_pickUp 29 = .ok (.aload_n 1, 1) := by decide +kernel
theorem dX7_pickUp_30 : decode cX7_pickUp 30 = .ok (.dup, 1) := by decide +kernel
theorem dX7_pickUp_31 : decode cX7_pickUp 31 = .ok (.getfield 87, 3) := by decide +kernel
theorem dX7_pickUp_34 : decode cX7_pickUp 34 = .ok (.iload_n 2, 1) := by decide +kernel
theorem dX7_pickUp_35 : decode cX7_pickUp 35 = .ok (.iadd, 1) := by decide +kernel
theorem dX7_pickUp_36 : decode cX7_pickUp 36 = .ok (.putfield 87, 3) := by decide +kernel
theorem dX7_pickUp_39 : decode cX7_pickUp 39 = .ok (.goto 13, 3) := by decide +kernel
theorem dX7_pickUp_42 : decode cX7_pickUp 42 = .ok (.aload_n 1, 1) := by decide +kernel
theorem dX7_pickUp_43 : decode cX7_pickUp 43 = .ok (.dup, 1) := by decide +kernel
theorem dX7_pickUp_44 : decode cX7_pickUp 44 = .ok (.getfield 90, 3) := by decide +kernel
theorem dX7_pickUp_47 : decode cX7_pickUp 47 = .ok (.iload_n 2, 1) := by decide +kernel
theorem dX7_pickUp_48 : decode cX7_pickUp 48 = .ok (.isub, 1) := by decide +kernel
theorem dX7_pickUp_49 : decode cX7_pickUp 49 = .ok (.putfield 90, 3) := by decide +kernel
theorem dX7_pickUp_52 : decode cX7_pickUp 52 = .ok (.return_, 1) := by decide +kernel
theorem dX7_makeRounds_0 : decode cX7_makeRounds 0 = .ok (.iconst 0, 1) := by decide +kernel
theorem dX7_makeRounds_1 : decode cX7_makeRounds 1 = .ok (.istore_n 2, 1) := by decide +kernel
theorem dX7_makeRounds_2 : decode cX7_makeRounds 2 = .ok (.iload_n 2, 1) := by decide +kernel
theorem dX7_makeRounds_3 : decode cX7_makeRounds 3 = .ok (.iload_n 1, 1) := by decide +kernel
theorem dX7_makeRounds_4 : decode cX7_makeRounds 4 = .ok (.if_icmp .ge 49, 3) := by decide +kernel
theorem dX7_makeRounds_7 : decode cX7_makeRounds 7 = .ok (.iconst 0, 1) := by decide +kernel
theorem dX7_makeRounds_8 : decode cX7_makeRounds 8 = .ok (.istore_n 3, 1) := by decide +kernel
theorem dX7_makeRounds_9 : decode cX7_makeRounds 9 = .ok (.iload_n 3, 1) := by decide +kernel
theorem dX7_makeRounds_10 : decode cX7_makeRounds 10 = .ok (.aload_n 0, 1) := by decide +kernel
theorem dX7_makeRounds_11 : decode cX7_makeRounds 11 = .ok (.getfield 12, 3) := by decide +kernel
theorem dX7_makeRounds_14 : decode cX7_makeRounds 14 = .ok (.getfield 49, 3) := by decide +kernel
theorem dX7_makeRounds_17 : decode cX7_makeRounds 17 = .ok (.if_icmp .ge 30, 3) := by decide +kernel
theorem dX7_makeRounds_20 : decode cX7_makeRounds 20 = .ok (.aload_n 0, 1) := by decide +kernel
theorem dX7_makeRounds_21 : decode cX7_makeRounds 21 = .ok (.getfield 12, 3) := by decide +kernel
theorem dX7_makeRounds_24 : decode cX7_makeRounds 24 = .ok (.iload_n 3, 1) := by decide +kernel
theorem dX7_makeRounds_25 : decode cX7_makeRounds 25 = .ok (.invokevirtual 93, 3) := by decide +kernel
theorem dX7_makeRounds_28 : decode cX7_makeRounds 28 = .ok (.astore 4, 2) := by decide +kernel
theorem dX7_makeRounds_30 : decode cX7_makeRounds 30 = .ok (.aload 4, 2) := by decide +kernel
theorem dX7_makeRounds_32 : decode cX7_makeRounds 32 = .ok (.ifnull 9, 3) := by decide +kernel
theorem dX7_makeRounds_35 : decode cX7_makeRounds 35 = .ok (.aload_n 0, 1) := by decide +kernel
theorem dX7_makeRounds_36 : decode cX7_makeRounds 36 = .ok (.aload 4, 2) := by decide +kernel
theorem dX7_makeRounds_38 : decode cX7_makeRounds 38 = .ok (.invokevirtual 97, 3) := by decide +kernel
theorem dX7_makeRounds_41 : decode cX7_makeRounds 41 = .ok (.iinc 3 1, 3) := by decide +kernel
theorem dX7_makeRounds_44 : decode cX7_makeRounds 44 = .ok (.goto (-35), 3) := by decide +kernel
theorem dX7_makeRounds_47 : decode cX7_makeRounds 47 = .ok (.iinc 2 1, 3) := by decide +kernel
theorem dX7_makeRounds_50 : decode cX7_makeRounds 50 = .ok (.goto (-48), 3) := by decide +kernel
theorem dX7_makeRounds_53 : decode cX7_makeRounds 53 = .ok (.return_, 1) := by decide +kernel
theorem dX7_makeStep_0 : decode cX7_makeStep 0 = .ok (.aload_n 1, 1) := by decide +kernel
theorem dX7_makeStep_1 : decode cX7_makeStep 1 = .ok (.getfield 101, 3) := by decide +kernel
theorem dX7_makeStep_4 : decode cX7_makeStep 4 = .ok (.aload_n 0, 1) := by decide +kernel
theorem dX7_makeStep_5 : decode cX7_makeStep 5 = .ok (.getfield 12, 3) := by decide +kernel
theorem dX7_makeStep_8 : decode cX7_makeStep 8 = .ok (.getfield 104, 3) := by decide +kernel
theorem dX7_makeStep_11 : decode cX7_makeStep 11 = .ok (.invokevirtual 108, 3) := by decide +kernel
theorem dX7_makeStep_14 : decode cX7_makeStep 14 = .ok (.invokestatic 113, 3) := by decide +kernel
theorem dX7_makeStep_17 : decode cX7_makeStep 17 = .ok (.istore_n 2, 1) := by decide +kernel
theorem dX7_makeStep_18 : decode cX7_makeStep 18 = .ok (.iconst 0, 1) := by decide +kernel
theorem dX7_makeStep_19 : decode cX7_makeStep 19 = .ok (.istore_n 3, 1) := by decide +kernel
theorem dX7_makeStep_20 : decode cX7_makeStep 20 = .ok (.iload_n 3, 1) := by decide +kernel
theorem dX7_makeStep_21 : decode cX7_makeStep 21 = .ok (.iconst 3, 1) := by decide +kernel
theorem dX7_makeStep_22 : decode cX7_makeStep 22 = .ok (.if_icmp .ge 24, 3) := by decide +kernel
theorem dX7_makeStep_25 : decode cX7_makeStep 25 = .ok (.aload_n 0, 1) := by decide +kernel
theorem dX7_makeStep_26 : decode cX7_makeStep 26 = .ok (.aload_n 1, 1) := by decide +kernel
theorem dX7_makeStep_27 : decode cX7_makeStep 27 = .ok (.iload_n 2, 1) := by decide +kernel
theorem dX7_makeStep_28 : decode cX7_makeStep 28 = .ok (.invokevirtual 116, 3) := by decide +kernel
theorem dX7_makeStep_31 : decode cX7_makeStep 31 = .ok (.ifCond .eq 15, 3) := by decide +kernel
theorem dX7_makeStep_34 : decode cX7_makeStep 34 = .ok (.iload_n 2, 1) := by decide +kernel
theorem dX7_makeStep_35 : decode cX7_makeStep 35 = .ok (.iconst 1, 1) := by decide +kernel
theorem dX7_makeStep_36 : decode cX7_makeStep 36 = .ok (.invokestatic 120, 3) := by decide +kernel
theorem dX7_makeStep_39 : decode cX7_makeStep 39 = .ok (.istore_n 2, 1) := by decide +kernel
theorem dX7_makeStep_40 : decode cX7_makeStep 40 = .ok (.iinc 3 1, 3) := by decide +kernel
theorem dX7_makeStep_43 : decode cX7_makeStep 43 = .ok (.goto (-23), 3) := by decide +kernel
theorem dX7_makeStep_46 : decode cX7_makeStep 46 = .ok (.aload_n 0, 1) := by decide +kernel
theorem dX7_makeStep_47 : decode cX7_makeStep 47 = .ok (.aload_n 1, 1) := by decide +kernel
theorem dX7_makeStep_48 : decode cX7_makeStep 48 = .ok (.iload_n 2, 1) := by decide +kernel
theorem dX7_makeStep_49 : decode cX7_makeStep 49 = .ok (.invokevirtual 123, 3) := by decide +kernel
theorem dX7_makeStep_52 : decode cX7_makeStep 52 = .ok (.return_, 1) := by decide +kernel
theorem dX7_obey_0 : decode cX7_obey 0 = .ok (.aload_n 0, 1) := by decide +kernel
theorem dX7_obey_1 : decode cX7_obey 1 = .ok (.aload_n 1, 1) := by decide +kernel
theorem dX7_obey_2 : decode cX7_obey 2 = .ok (.invokevirtual 80, 3) := by decide +kernel
theorem dX7_obey_5 : decode cX7_obey 5 = .ok (.istore 4, 2) := by decide +kernel
theorem dX7_obey_7 : decode cX7_obey 7 = .ok (.iload_n 2, 1) := by decide +kernel
theorem dX7_obey_8 : decode cX7_obey 8 = .ok (.bipush 103, 2) := by decide +kernel
theorem dX7_obey_10 : decode cX7_obey 10 = .ok (.if_icmp .ne 29, 3) := by decide +kernel
theorem dX7_obey_13 : decode cX7_obey 13 = .ok (.aload_n 0, 1) := by decide +kernel
theorem dX7_obey_14 : decode cX7_obey 14 = .ok (.aload_n 1, 1) := by decide +kernel
theorem dX7_obey_15 : decode cX7_obey 15 = .ok (.iload_n 3, 1) := by decide +kernel
theorem dX7_obey_16 : decode cX7_obey 16 = .ok (.iload 4, 2) := by decide +kernel
theorem dX7_obey_18 : decode cX7_obey 18 = .ok (.aload_n 1, 1) := by decide +kernel
theorem dX7_obey_19 : decode cX7_obey 19 = .ok (.getfield 127, 3) := by decide +kernel
theorem dX7_obey_22 : decode cX7_obey 22 = .ok (.aload_n 1, 1) := by decide +kernel
theorem dX7_obey_23 : decode cX7_obey 23 = .ok (.getfield 84, 3) := by decide +kernel
theorem dX7_obey_26 : decode cX7_obey 26 = .ok (.isub, 1) := by decide +kernel
theorem dX7_obey_27 : decode cX7_obey 27 = .ok (.invokestatic 130, 3) := by decide +kernel
theorem dX7_obey_30 : decode cX7_obey 30 = .ok (.invokestatic 130, 3) := by decide +kernel
theorem dX7_obey_33 : decode cX7_obey 33 = .ok (.invokevirtual 135, 3) := by decide +kernel
theorem dX7_obey_36 : decode cX7_obey 36 = .ok (.goto 72, 3) := by decide +kernel
theorem dX7_obey_39 : decode cX7_obey 39 = .ok (.iload_n 2, 1) := by decide +kernel
theorem dX7_obey_40 : decode cX7_obey 40 = .ok (.bipush 100, 2) := by decide +kernel
theorem dX7_obey_42 : decode cX7_obey 42 = .ok (.if_icmp .ne 28, 3) := by decide +kernel
theorem dX7_obey_45 : decode cX7_obey 45 = .ok (.aload_n 0, 1) := by decide +kernel
theorem dX7_obey_46 : decode cX7_obey 46 = .ok (.aload_n 1, 1) := by decide +kernel
theorem dX7_obey_47 : decode cX7_obey 47 = .ok (.iload_n 3, 1) := by decide +kernel
theorem dX7_obey_48 : decode cX7_obey 48 = .ok (.aload_n 1, 1) := by decide +kernel
theorem dX7_obey_49 : decode cX7_obey 49 = .ok (.getfield 84, 3) := by decide +kernel
theorem dX7_obey_52 : decode cX7_obey 52 = .ok (.bipush 99, 2) := by decide +kernel
theorem dX7_obey_54 : decode cX7_obey 54 = .ok (.iload 4, 2) := by decide +kernel
theorem dX7_obey_56 : decode cX7_obey 56 = .ok (.isub, 1) := by decide +kernel
theorem dX7_obey_57 : decode cX7_obey 57 = .ok (.invokestatic 130, 3) := by decide +kernel
theorem dX7_obey_60 : decode cX7_obey 60 = .ok (.invokestatic 130, 3) := by decide +kernel
theorem dX7_obey_63 : decode cX7_obey 63 = .ok (.ineg, 1) := by decide +kernel
theorem dX7_obey_64 : decode cX7_obey 64 = .ok (.invokevirtual 135, 3) := by decide +kernel
theorem dX7_obey_67 : decode cX7_obey 67 = .ok (.goto 41, 3) := by decide +kernel
theorem dX7_obey_70 : decode cX7_obey 70 = .ok (.iload_n 2, 1) := by decide +kernel
theorem dX7_obey_71 : decode cX7_obey 71 = .ok (.invokestatic 138, 3) := by decide +kernel
theorem dX7_obey_74 : decode cX7_obey 74 = .ok (.istore 5, 2) := by decide +kernel
theorem dX7_obey_76 : decode cX7_obey 76 = .ok (.iconst 0, 1) := by decide +kernel
theorem dX7_obey_77 : decode cX7_obey 77 = .ok (.istore 6, 2) := by decide +kernel
theorem dX7_obey_79 : decode cX7_obey 79 = .ok (.iload 6, 2) := by decide +kernel
theorem dX7_obey_81 : decode cX7_obey 81 = .ok (.iload_n 3, 1) := by decide +kernel
theorem dX7_obey_82 : decode cX7_obey 82 = .ok (.if_icmp .ge 26, 3) := by decide +kernel
theorem dX7_obey_85 : decode cX7_obey 85 = .ok (.aload_n 0, 1) := by decide +kernel
theorem dX7_obey_86 : decode cX7_obey 86 = .ok (.aload_n 1, 1) := by decide +kernel
theorem dX7_obey_87 : decode cX7_obey 87 = .ok (.iload 5, 2) := by decide +kernel
theorem dX7_obey_89 : decode cX7_obey 89 = .ok (.invokevirtual 116, 3) := by decide +kernel
theorem dX7_obey_92 : decode cX7_obey 92 = .ok (.ifCond .ne 16, 3) := by decide +kernel
theorem dX7_obey_95 : decode cX7_obey 95 = .ok (.aload_n 0, 1) := by decide +kernel
theorem dX7_obey_96 : decode cX7_obey 96 = .ok (.aload_n 1, 1) := by decide +kernel
theorem dX7_obey_97 : decode cX7_obey 97 = .ok (.iload 5, 2) := by decide +kernel
theorem dX7_obey_99 : decode cX7_obey 99 = .ok (.invokevirtual 123, 3) := by decide +kernel
theorem dX7_obey_102 : decode cX7_obey 102 = .ok (.iinc 6 1, 3) := by decide +kernel
theorem dX7_obey_105 : decode cX7_obey 105 = .ok (.goto (-26), 3) := by decide +kernel
theorem dX7_obey_108 : decode cX7_obey 108 = .ok (.return_, 1) := by decide +kernel
theorem dX7_stepAhead_0 : decode cX7_stepAhead 0 = .ok (.aload_n 1, 1) := by decide +kernel
theorem dX7_stepAhead_1 : decode cX7_stepAhead 1 = .ok (.iload_n 2, 1) := by decide +kernel
theorem dX7_stepAhead_2 : decode cX7_stepAhead 2 = .ok (.putfield 101, 3) := by decide +kernel
theorem dX7_stepAhead_5 : decode cX7_stepAhead 5 = .ok (.aload_n 1, 1) := by decide +kernel
theorem dX7_stepAhead_6 : decode cX7_stepAhead 6 = .ok (.aload_n 1, 1) := by decide +kernel
theorem dX7_stepAhead_7 : decode cX7_stepAhead 7 = .ok (.iload_n 2, 1) := by decide +kernel
theorem dX7_stepAhead_8 : decode cX7_stepAhead 8 = .ok (.invokestatic 142, 3) := by decide +kernel
theorem dX7_stepAhead_11 : decode cX7_stepAhead 11 = .ok (.putfield 146, 3) := by decide +kernel
theorem dX7_stepAhead_14 : decode cX7_stepAhead 14 = .ok (.aload_n 1, 1) := by decide +kernel
theorem dX7_stepAhead_15 : decode cX7_stepAhead 15 = .ok (.aload_n 1, 1) := by decide +kernel
theorem dX7_stepAhead_16 : decode cX7_stepAhead 16 = .ok (.iload_n 2, 1) := by decide +kernel
theorem dX7_stepAhead_17 : decode cX7_stepAhead 17 = .ok (.invokestatic 149, 3) := by decide +kernel
theorem dX7_stepAhead_20 : decode cX7_stepAhead 20 = .ok (.putfield 152, 3) := by decide +kernel
theorem dX7_stepAhead_23 : decode cX7_stepAhead 23 = .ok (.aload_n 1, 1) := by decide +kernel
theorem dX7_stepAhead_24 : decode cX7_stepAhead 24 = .ok (.dup, 1) := by decide +kernel
theorem dX7_stepAhead_25 : decode cX7_stepAhead 25 = .ok (.getfield 155, 3) := by decide +kernel
theorem dX7_stepAhead_28 : decode cX7_stepAhead 28 = .ok (.iconst 1, 1) := by decide +kernel
theorem dX7_stepAhead_29 : decode cX7_stepAhead 29 = .ok (.iadd, 1) := by decide +kernel
theorem dX7_stepAhead_30 : decode cX7_stepAhead 30 = .ok (.putfield 155, 3) := by decide +kernel
theorem dX7_stepAhead_33 : decode cX7_stepAhead 33 = .ok (.aload_n 0, 1) := by decide +kernel
theorem dX7_stepAhead_34 : decode cX7_stepAhead 34 = .ok (.getfield 21, 3) := by decide +kernel
theorem dX7_stepAhead_37 : decode cX7_stepAhead 37 = .ok (.aload_n 0, 1) := by decide +kernel
theorem dX7_stepAhead_38 : decode cX7_stepAhead 38 = .ok (.getfield 12, 3) := by decide +kernel
theorem dX7_stepAhead_41 : decode cX7_stepAhead 41 = .ok (.getfield 39, 3) := by decide +kernel
theorem dX7_stepAhead_44 : decode cX7_stepAhead 44 = .ok (.invokevirtual 158, 3) := by decide +kernel
theorem dX7_stepAhead_47 : decode cX7_stepAhead 47 = .ok (.istore_n 3, 1) := by decide +kernel
theorem dX7_stepAhead_48 : decode cX7_stepAhead 48 = .ok (.aload_n 0, 1) := by decide +kernel
theorem dX7_stepAhead_49 : decode cX7_stepAhead 49 = .ok (.aload_n 1, 1) := by decide +kernel
theorem dX7_stepAhead_50 : decode cX7_stepAhead 50 = .ok (.aload_n 0, 1) := by decide +kernel
theorem dX7_stepAhead_51 : decode cX7_stepAhead 51 = .ok (.aload_n 1, 1) := by decide +kernel
theorem dX7_stepAhead_52 : decode cX7_stepAhead 52 = .ok (.invokevirtual 162, 3) := by decide +kernel
theorem dX7_stepAhead_55 : decode cX7_stepAhead 55 = .ok (.invokevirtual 135, 3) := by decide +kernel
theorem dX7_stepAhead_58 : decode cX7_stepAhead 58 = .ok (.aload_n 0, 1) := by decide +kernel
theorem dX7_stepAhead_59 : decode cX7_stepAhead 59 = .ok (.getfield 21, 3) := by decide +kernel
theorem dX7_stepAhead_62 : decode cX7_stepAhead 62 = .ok (.aload_n 0, 1) := by decide +kernel
theorem dX7_stepAhead_63 : decode cX7_stepAhead 63 = .ok (.getfield 12, 3) := by decide +kernel
theorem dX7_stepAhead_66 : decode cX7_stepAhead 66 = .ok (.getfield 39, 3) := by decide +kernel
theorem dX7_stepAhead_69 : decode cX7_stepAhead 69 = .ok (.invokevirtual 158, 3) := by decide +kernel
theorem dX7_stepAhead_72 : decode cX7_stepAhead 72 = .ok (.iload_n 3, 1) := by decide +kernel
theorem dX7_stepAhead_73 : decode cX7_stepAhead 73 = .ok (.isub, 1) := by decide +kernel
theorem dX7_stepAhead_74 : decode cX7_stepAhead 74 = .ok (.istore 4, 2) := by decide +kernel
theorem dX7_stepAhead_76 : decode cX7_stepAhead 76 = .ok (.aload_n 0, 1) := by decide +kernel
theorem dX7_stepAhead_77 : decode cX7_stepAhead 77 = .ok (.getfield 12, 3) := by decide +kernel
theorem dX7_stepAhead_80 : decode cX7_stepAhead 80 = .ok (.dup, 1) := by decide +kernel
theorem dX7_stepAhead_81 : decode cX7_stepAhead 81 = .ok (.getfield 55, 3) := by decide +kernel
theorem dX7_stepAhead_84 : decode cX7_stepAhead 84 = .ok (.iload 4, 2) := by decide +kernel
theorem dX7_stepAhead_86 : decode cX7_stepAhead 86 = .ok (.iconst 0, 1) := by decide +kernel
theorem dX7_stepAhead_87 : decode cX7_stepAhead 87 = .ok (.invokestatic 165, 3) := by decide +kernel
theorem dX7_stepAhead_90 : decode cX7_stepAhead 90 = .ok (.iadd, 1) := by decide +kernel
theorem dX7_stepAhead_91 : decode cX7_stepAhead 91 = .ok (.putfield 55, 3) := by decide +kernel
theorem dX7_stepAhead_94 : decode cX7_stepAhead 94 = .ok (.aload_n 0, 1) := by decide +kernel
theorem dX7_stepAhead_95 : decode cX7_stepAhead 95 = .ok (.getfield 12, 3) := by decide +kernel
theorem dX7_stepAhead_98 : decode cX7_stepAhead 98 = .ok (.dup, 1) := by decide +kernel
theorem dX7_stepAhead_99 : decode cX7_stepAhead 99 = .ok (.getfield 52, 3) := by decide +kernel
theorem dX7_stepAhead_102 : decode cX7_stepAhead 102 = .ok (.iload 4, 2) := by decide +kernel
theorem dX7_stepAhead_104 : decode cX7_stepAhead 104 = .ok (.ineg, 1) := by decide +kernel
theorem dX7_stepAhead_105 : decode cX7_stepAhead 105 = .ok (.iconst 0, 1) := by decide +kernel
theorem dX7_stepAhead_106 : decode cX7_stepAhead 106 = .ok (.invokestatic 165, 3) := by decide +kernel
theorem dX7_stepAhead_109 : decode cX7_stepAhead 109 = .ok (.iadd, 1) := by decide +kernel
theorem dX7_stepAhead_110 : decode cX7_stepAhead 110 = .ok (.putfield 52, 3) := by decide +kernel
theorem dX7_stepAhead_113 : decode cX7_stepAhead 113 = .ok (.return_, 1) := by decide +kernel
theorem dX7_pickedBySort_0 : decode cX7_pickedBySort 0 = .ok (.aload_n 0, 1) := by decide +kernel
theorem dX7_pickedBySort_1 : decode cX7_pickedBySort 1 = .ok (.aload_n 1, 1) := by decide +kernel
theorem dX7_pickedBySort_2 : decode cX7_pickedBySort 2 = .ok (.invokevirtual 80, 3) := by decide +kernel
theorem dX7_pickedBySort_5 : decode cX7_pickedBySort 5 = .ok (.istore_n 2, 1) := by decide +kernel
theorem dX7_pickedBySort_6 : decode cX7_pickedBySort 6 = .ok (.aload_n 1, 1) := by decide +kernel
theorem dX7_pickedBySort_7 : decode cX7_pickedBySort 7 = .ok (.getfield 84, 3) := by decide +kernel
theorem dX7_pickedBySort_10 : decode cX7_pickedBySort 10 = .ok (.istore_n 3, 1) := by decide +kernel
theorem dX7_pickedBySort_11 : decode cX7_pickedBySort 11 = .ok (.aload_n 1, 1) := by decide +kernel
theorem dX7_pickedBySort_12 : decode cX7_pickedBySort 12 = .ok (.getfield 127, 3) := by decide +kernel
theorem dX7_pickedBySort_15 : decode cX7_pickedBySort 15 = .ok (.iload_n 3, 1) := by decide +kernel
theorem dX7_pickedBySort_16 : decode cX7_pickedBySort 16 = .ok (.isub, 1) := by decide +kernel
theorem dX7_pickedBySort_17 : decode cX7_pickedBySort 17 = .ok (.istore 4, 2) := by decide +kernel
theorem dX7_pickedBySort_19 : decode cX7_pickedBySort 19 = .ok (.iload_n 2, 1) := by decide +kernel
theorem dX7_pickedBySort_20 : decode cX7_pickedBySort 20 = .ok (.ifCond .ne 5, 3) := by decide +kernel
theorem dX7_pickedBySort_23 : decode cX7_pickedBySort 23 = .ok (.iconst 0, 1) := by decide +kernel
theorem dX7_pickedBySort_24 : decode cX7_pickedBySort 24 = .ok (.ireturn, 1) := by decide +kernel
theorem dX7_pickedBySort_25 : decode cX7_pickedBySort 25 = .ok (.aload_n 1, 1) := by decide +kernel
theorem dX7_pickedBySort_26 : decode cX7_pickedBySort 26 = .ok (.getfield 168, 3) := by decide +kernel
theorem dX7_pickedBySort_29 : decode cX7_pickedBySort 29 = .ok (.ifCond .ne 21, 3) := by decide +kernel
theorem dX7_pickedBySort_32 : decode cX7_pickedBySort 32 = .ok (.iload_n 3, 1) := by decide +kernel
theorem dX7_pickedBySort_33 : decode cX7_pickedBySort 33 = .ok (.ifCond .ne 7, 3) := by decide +kernel
theorem dX7_pickedBySort_36 : decode cX7_pickedBySort 36 = .ok (.iconst 1, 1) := by decide +kernel
theorem dX7_pickedBySort_37 : decode cX7_pickedBySort 37 = .ok (.goto 12, 3) := by decide +kernel
theorem dX7_pickedBySort_40 : decode cX7_pickedBySort 40 = .ok (.iconst 1, 1) := by decide +kernel
theorem dX7_pickedBySort_41 : decode cX7_pickedBySort 41 = .ok (.bipush 99, 2) := by decide +kernel
theorem dX7_pickedBySort_43 : decode cX7_pickedBySort 43 = .ok (.iload_n 2, 1) := by decide +kernel
theorem dX7_pickedBySort_44 : decode cX7_pickedBySort 44 = .ok (.isub, 1) := by decide +kernel
theorem dX7_pickedBySort_45 : decode cX7_pickedBySort 45 = .ok (.invokestatic 130, 3) := by decide +kernel
theorem dX7_pickedBySort_48 : decode cX7_pickedBySort 48 = .ok (.ineg, 1) := by decide +kernel
theorem dX7_pickedBySort_49 : decode cX7_pickedBySort 49 = .ok (.ireturn, 1) := by decide +kernel
theorem dX7_pickedBySort_50 : decode cX7_pickedBySort 50 = .ok (.aload_n 1, 1) := by decide +kernel
theorem dX7_pickedBySort_51 : decode cX7_pickedBySort 51 = .ok (.getfield 168, 3) := by decide +kernel
theorem dX7_pickedBySort_54 : decode cX7_pickedBySort 54 = .ok (.iconst 1, 1) := by decide +kernel
theorem dX7_pickedBySort_55 : decode cX7_pickedBySort 55 = .ok (.if_icmp .ne 27, 3) := by decide +kernel
theorem dX7_pickedBySort_58 : decode cX7_pickedBySort 58 = .ok (.iload_n 2, 1) := by decide +kernel
theorem dX7_pickedBySort_59 : decode cX7_pickedBySort 59 = .ok (.iconst 2, 1) := by decide +kernel
theorem dX7_pickedBySort_60 : decode cX7_pickedBySort 60 = .ok (.if_icmp .gt 12, 3) := by decide +kernel
theorem dX7_pickedBySort_63 : decode cX7_pickedBySort 63 = .ok (.iload_n 2, 1) := by decide +kernel
theorem dX7_pickedBySort_64 : decode cX7_pickedBySort 64 = .ok (.iload 4, 2) := by decide +kernel
theorem dX7_pickedBySort_66 : decode cX7_pickedBySort 66 = .ok (.invokestatic 130, 3) := by decide +kernel
theorem dX7_pickedBySort_69 : decode cX7_pickedBySort 69 = .ok (.goto 12, 3) := by decide +kernel
theorem dX7_pickedBySort_72 : decode cX7_pickedBySort 72 = .ok (.iload_n 3, 1) := by decide +kernel
theorem dX7_pickedBySort_73 : decode cX7_pickedBySort 73 = .ok (.bipush 99, 2) := by decide +kernel
theorem dX7_pickedBySort_75 : decode cX7_pickedBySort 75 = .ok (.iload_n 2, 1) := by decide +kernel
theorem dX7_pickedBySort_76 : decode cX7_pickedBySort 76 = .ok (.isub, 1) := by decide +kernel
theorem dX7_pickedBySort_77 : decode cX7_pickedBySort 77 = .ok (.invokestatic 130, 3) := by decide +kernel
theorem dX7_pickedBySort_80 : decode cX7_pickedBySort 80 = .ok (.ineg, 1) := by decide +kernel
theorem dX7_pickedBySort_81 : decode cX7_pickedBySort 81 = .ok (.ireturn, 1) := by decide +kernel
theorem dX7_pickedBySort_82 : decode cX7_pickedBySort 82 = .ok (.aload_n 0, 1) := by decide +kernel
theorem dX7_pickedBySort_83 : decode cX7_pickedBySort 83 = .ok (.getfield 21, 3) := by decide +kernel
theorem dX7_pickedBySort_86 : decode cX7_pickedBySort 86 = .ok (.aload_n 1, 1) := by decide +kernel
theorem dX7_pickedBySort_87 : decode cX7_pickedBySort 87 = .ok (.invokevirtual 62, 3) := by decide +kernel
theorem dX7_pickedBySort_90 : decode cX7_pickedBySort 90 = .ok (.invokevirtual 171, 3) := by decide +kernel
theorem dX7_pickedBySort_93 : decode cX7_pickedBySort 93 = .ok (.istore 5, 2) := by decide +kernel
theorem dX7_pickedBySort_95 : decode cX7_pickedBySort 95 = .ok (.iload 4, 2) := by decide +kernel
theorem dX7_pickedBySort_97 : decode cX7_pickedBySort 97 = .ok (.ifCond .le 17, 3) := by decide +kernel
theorem dX7_pickedBySort_100 : decode cX7_pickedBySort 100 = .ok (.aload_n 0, 1) := by decide +kernel
theorem dX7_pickedBySort_101 : decode cX7_pickedBySort 101 = .ok (.getfield 21, 3) := by decide +kernel
theorem dX7_pickedBySort_104 : decode cX7_pickedBySort 104 = .ok (.iload 5, 2) := by decide +kernel
theorem dX7_pickedBySort_106 : decode cX7_pickedBySort 106 = .ok (.invokevirtual 174, 3) := by decide +kernel
theorem dX7_pickedBySort_109 : decode cX7_pickedBySort 109 = .ok (.ifCond .ne 5, 3) := by decide +kernel
theorem dX7_pickedBySort_112 : decode cX7_pickedBySort 112 = .ok (.iconst 1, 1) := by decide +kernel
theorem dX7_pickedBySort_113 : decode cX7_pickedBySort 113 = .ok (.ireturn, 1) := by decide +kernel
theorem dX7_pickedBySort_114 : decode cX7_pickedBySort 114 = .ok (.iconst 1, 1) := by decide +kernel
theorem dX7_pickedBySort_115 : decode cX7_pickedBySort 115 = .ok (.iload_n 3, 1) := by decide +kernel
theorem dX7_pickedBySort_116 : decode cX7_pickedBySort 116 = .ok (.invokestatic 130, 3) := by decide +kernel
theorem dX7_pickedBySort_119 : decode cX7_pickedBySort 119 = .ok (.bipush 99, 2) := by decide +kernel
theorem dX7_pickedBySort_121 : decode cX7_pickedBySort 121 = .ok (.iload_n 2, 1) := by decide +kernel
theorem dX7_pickedBySort_122 : decode cX7_pickedBySort 122 = .ok (.isub, 1) := by decide +kernel
theorem dX7_pickedBySort_123 : decode cX7_pickedBySort 123 = .ok (.invokestatic 130, 3) := by decide +kernel
theorem dX7_pickedBySort_126 : decode cX7_pickedBySort 126 = .ok (.ineg, 1) := by decide +kernel
theorem dX7_pickedBySort_127 : decode cX7_pickedBySort 127 = .ok (.ireturn, 1) := by decide +kernel
theorem dX7_hasWall_0 : decode cX7_hasWall 0 = .ok (.aload_n 0, 1) := by decide +kernel
theorem dX7_hasWall_1 : decode cX7_hasWall 1 = .ok (.getfield 12, 3) := by decide +kernel
theorem dX7_hasWall_4 : decode cX7_hasWall 4 = .ok (.aload_n 1, 1) := by decide +kernel
theorem dX7_hasWall_5 : decode cX7_hasWall 5 = .ok (.iload_n 2, 1) := by decide +kernel
theorem dX7_hasWall_6 : decode cX7_hasWall 6 = .ok (.invokestatic 142, 3) := by decide +kernel
theorem dX7_hasWall_9 : decode cX7_hasWall 9 = .ok (.aload_n 1, 1) := by decide +kernel
theorem dX7_hasWall_10 : decode cX7_hasWall 10 = .ok (.iload_n 2, 1) := by decide +kernel
theorem dX7_hasWall_11 : decode cX7_hasWall 11 = .ok (.invokestatic 149, 3) := by decide +kernel
theorem dX7_hasWall_14 : decode cX7_hasWall 14 = .ok (.invokevirtual 178, 3) := by decide +kernel
theorem dX7_hasWall_17 : decode cX7_hasWall 17 = .ok (.ifCond .ne 7, 3) := by decide +kernel
theorem dX7_hasWall_20 : decode cX7_hasWall 20 = .ok (.iconst 1, 1) := by decide +kernel
theorem dX7_hasWall_21 : decode cX7_hasWall 21 = .ok (.goto 4, 3) := by decide +kernel
theorem dX7_hasWall_24 : decode cX7_hasWall 24 = .ok (.iconst 0, 1) := by decide +kernel
theorem dX7_hasWall_25 : decode cX7_hasWall 25 = .ok (.ireturn, 1) := by decide +kernel
theorem dX7_rowAhead_0 : decode cX7_rowAhead 0 = .ok (.iload_n 1, 1) := by decide +kernel
theorem dX7_rowAhead_1 : decode cX7_rowAhead 1 = .ok (.ifCond .ne 10, 3) := by decide +kernel
theorem dX7_rowAhead_4 : decode cX7_rowAhead 4 = .ok (.aload_n 0, 1) := by decide +kernel
theorem dX7_rowAhead_5 : decode cX7_rowAhead 5 = .ok (.getfield 146, 3) := by decide +kernel
theorem dX7_rowAhead_8 : decode cX7_rowAhead 8 = .ok (.iconst 1, 1) := by decide +kernel
theorem dX7_rowAhead_9 : decode cX7_rowAhead 9 = .ok (.isub, 1) := by decide +kernel
theorem dX7_rowAhead_10 : decode cX7_rowAhead 10 = .ok (.ireturn, 1) := by decide +kernel
theorem dX7_rowAhead_11 : decode cX7_rowAhead 11 = .ok (.iload_n 1, 1) := by decide +kernel
theorem dX7_rowAhead_12 : decode cX7_rowAhead 12 = .ok (.iconst 2, 1) := by decide +kernel
theorem dX7_rowAhead_13 : decode cX7_rowAhead 13 = .ok (.if_icmp .ne 12, 3) := by decide +kernel
theorem dX7_rowAhead_16 : decode cX7_rowAhead 16 = .ok (.aload_n 0, 1) := by decide +kernel
theorem dX7_rowAhead_17 : decode cX7_rowAhead 17 = .ok (.getfield 146, 3) := by decide +kernel
theorem dX7_rowAhead_20 : decode cX7_rowAhead 20 = .ok (.iconst 1, 1) := by decide +kernel
theorem dX7_rowAhead_21 : decode cX7_rowAhead 21 = .ok (.iadd, 1) := by decide +kernel
theorem dX7_rowAhead_22 : decode cX7_rowAhead 22 = .ok (.goto 7, 3) := by decide +kernel
theorem dX7_rowAhead_25 : decode cX7_rowAhead 25 = .ok (.aload_n 0, 1) := by decide +kernel
theorem dX7_rowAhead_26 : decode cX7_rowAhead 26 = .ok (.getfield 146, 3) := by decide +kernel
theorem dX7_rowAhead_29 : decode cX7_rowAhead 29 = .ok (.ireturn, 1) := by decide +kernel
theorem dX7_columnAhead_0 : decode cX7_columnAhead 0 = .ok (.iload_n 1, 1) := by decide +kernel
theorem dX7_columnAhead_1 : decode cX7_columnAhead 1 = .ok (.iconst 1, 1) := by decide +kernel
theorem dX7_columnAhead_2 : decode cX7_columnAhead 2 = .ok (.if_icmp .ne 10, 3) := by decide +kernel
theorem dX7_columnAhead_5 : decode cX7_columnAhead 5 = .ok (.aload_n 0, 1) := by decide +kernel
theorem dX7_columnAhead_6 : decode cX7_columnAhead 6 = .ok (.getfield 152, 3) := by decide +kernel
theorem dX7_columnAhead_9 : decode cX7_columnAhead 9 = .ok (.iconst 1, 1) := by decide +kernel
theorem dX7_columnAhead_10 : decode cX7_columnAhead 10 = .ok (.iadd, 1) := by decide +kernel
theorem dX7_columnAhead_11 : decode cX7_columnAhead 11 = .ok (.ireturn, 1) := by decide +kernel
theorem dX7_columnAhead_12 : decode cX7_columnAhead 12 = .ok (.iload_n 1, 1) := by decide +kernel
theorem dX7_columnAhead_13 : decode cX7_columnAhead 13 = .ok (.iconst 3, 1) := by decide +kernel
theorem dX7_columnAhead_14 : decode cX7_columnAhead 14 = .ok (.if_icmp .ne 12, 3) := by decide +kernel
theorem dX7_columnAhead_17 : decode cX7_columnAhead 17 = .ok (.aload_n 0, 1) := by decide +kernel
theorem dX7_columnAhead_18 : decode cX7_columnAhead 18 = .ok (.getfield 152, 3) := by decide +kernel
theorem dX7_columnAhead_21 : decode cX7_columnAhead 21 = .ok (.iconst 1, 1) := by decide +kernel
theorem dX7_columnAhead_22 : decode cX7_columnAhead 22 = .ok (.isub, 1) := by decide +kernel
theorem dX7_columnAhead_23 : decode cX7_columnAhead 23 = .ok (.goto 7, 3) := by decide +kernel
theorem dX7_columnAhead_26 : decode cX7_columnAhead 26 = .ok (.aload_n 0, 1) := by decide +kernel
theorem dX7_columnAhead_27 : decode cX7_columnAhead 27 = .ok (.getfield 152, 3) := by decide +kernel
theorem dX7_columnAhead_30 : decode cX7_columnAhead 30 = .ok (.ireturn, 1) := by decide +kernel
theorem dX7_toTheRight_0 : decode cX7_toTheRight 0 = .ok (.iload_n 0, 1) := by decide +kernel
theorem dX7_toTheRight_1 : decode cX7_toTheRight 1 = .ok (.iload_n 1, 1) := by decide +kernel
theorem dX7_toTheRight_2 : decode cX7_toTheRight 2 = .ok (.iadd, 1) := by decide +kernel
theorem dX7_toTheRight_3 : decode cX7_toTheRight 3 = .ok (.iconst 4, 1) := by decide +kernel
theorem dX7_toTheRight_4 : decode cX7_toTheRight 4 = .ok (.irem, 1) := by decide +kernel
theorem dX7_toTheRight_5 : decode cX7_toTheRight 5 = .ok (.ireturn, 1) := by decide +kernel
theorem dX7_turned_0 : decode cX7_turned 0 = .ok (.iload_n 1, 1) := by decide +kernel
theorem dX7_turned_1 : decode cX7_turned 1 = .ok (.tableswitch 53 5 9 #[35, 35, 41, 41, 47], 35) := by decide +kernel
theorem dX7_turned_36 : decode cX7_turned 36 = .ok (.iload_n 0, 1) := by decide +kernel
theorem dX7_turned_37 : decode cX7_turned 37 = .ok (.iconst 1, 1) := by decide +kernel
theorem dX7_turned_38 : decode cX7_turned 38 = .ok (.invokestatic 120, 3) := by decide +kernel
theorem dX7_turned_41 : decode cX7_turned 41 = .ok (.ireturn, 1) := by decide +kernel
theorem dX7_turned_42 : decode cX7_turned 42 = .ok (.iload_n 0, 1) := by decide +kernel
theorem dX7_turned_43 : decode cX7_turned 43 = .ok (.iconst 3, 1) := by decide +kernel
theorem dX7_turned_44 : decode cX7_turned 44 = .ok (.invokestatic 120, 3) := by decide +kernel
theorem dX7_turned_47 : decode cX7_turned 47 = .ok (.ireturn, 1) := by decide +kernel
theorem dX7_turned_48 : decode cX7_turned 48 = .ok (.iload_n 0, 1) := by decide +kernel
theorem dX7_turned_49 : decode cX7_turned 49 = .ok (.iconst 2, 1) := by decide +kernel
theorem dX7_turned_50 : decode cX7_turned 50 = .ok (.invokestatic 120, 3) := by decide +kernel
theorem dX7_turned_53 : decode cX7_turned 53 = .ok (.ireturn, 1) := by decide +kernel
theorem dX7_turned_54 : decode cX7_turned 54 = .ok (.iload_n 0, 1) := by decide +kernel
theorem dX7_turned_55 : decode cX7_turned 55 = .ok (.ireturn, 1) := by decide +kernel
theorem dX7_directionOf_0 : decode cX7_directionOf 0 = .ok (.iload_n 0, 1) := by decide +kernel
theorem dX7_directionOf_1 : decode cX7_directionOf 1 = .ok (.bipush 110, 2) := by decide +kernel
theorem dX7_directionOf_3 : decode cX7_directionOf 3 = .ok (.if_icmp .ne 5, 3) := by decide +kernel
theorem dX7_directionOf_6 : decode cX7_directionOf 6 = .ok (.iconst 0, 1) := by decide +kernel
theorem dX7_directionOf_7 : decode cX7_directionOf 7 = .ok (.ireturn, 1) := by decide +kernel
theorem dX7_directionOf_8 : decode cX7_directionOf 8 = .ok (.iload_n 0, 1) := by decide +kernel
theorem dX7_directionOf_9 : decode cX7_directionOf 9 = .ok (.bipush 101, 2) := by decide +kernel
theorem dX7_directionOf_11 : decode cX7_directionOf 11 = .ok (.if_icmp .ne 5, 3) := by decide +kernel
theorem dX7_directionOf_14 : decode cX7_directionOf 14 = .ok (.iconst 1, 1) := by decide +kernel
theorem dX7_directionOf_15 : decode cX7_directionOf 15 = .ok (.ireturn, 1) := by decide +kernel
theorem dX7_directionOf_16 : decode cX7_directionOf 16 = .ok (.iload_n 0, 1) := by decide +kernel
theorem dX7_directionOf_17 : decode cX7_directionOf 17 = .ok (.bipush 115, 2) := by decide +kernel
theorem dX7_directionOf_19 : decode cX7_directionOf 19 = .ok (.if_icmp .ne 7, 3) := by decide +kernel
theorem dX7_directionOf_22 : decode cX7_directionOf 22 = .ok (.iconst 2, 1) := by decide +kernel
theorem dX7_directionOf_23 : decode cX7_directionOf 23 = .ok (.goto 4, 3) := by decide +kernel
theorem dX7_directionOf_26 : decode cX7_directionOf 26 = .ok (.iconst 3, 1) := by decide +kernel
theorem dX7_directionOf_27 : decode cX7_directionOf 27 = .ok (.ireturn, 1) := by decide +kernel
theorem dX8_init_0 : decode cX8_init 0 = .ok (.aload_n 0, 1) := by decide +kernel
theorem dX8_init_1 : decode cX8_init 1 = .ok (.invokespecial 1, 3) := by decide +kernel
theorem dX8_init_4 : decode cX8_init 4 = .ok (.aload_n 0, 1) := by decide +kernel
theorem dX8_init_5 : decode cX8_init 5 = .ok (.new 7, 3) := by decide +kernel
theorem dX8_init_8 : decode cX8_init 8 = .ok (.dup, 1) := by decide +kernel
theorem dX8_init_9 : decode cX8_init 9 = .ok (.invokespecial 9, 3) := by decide +kernel
theorem dX8_init_12 : decode cX8_init 12 = .ok (.putfield 10, 3) := by decide +kernel
theorem dX8_init_15 : decode cX8_init 15 = .ok (.aload_n 0, 1) := by decide +kernel
theorem dX8_init_16 : decode cX8_init 16 = .ok (.new 16, 3) := by decide +kernel
theorem dX8_init_19 : decode cX8_init 19 = .ok (.dup, 1) := by decide +kernel
theorem dX8_init_20 : decode cX8_init 20 = .ok (.invokespecial 18, 3) := by decide +kernel
theorem dX8_init_23 : decode cX8_init 23 = .ok (.putfield 19, 3) := by decide +kernel
theorem dX8_init_26 : decode cX8_init 26 = .ok (.aload_n 0, 1) := by decide +kernel
theorem dX8_init_27 : decode cX8_init 27 = .ok (.new 23, 3) := by decide +kernel
theorem dX8_init_30 : decode cX8_init 30 = .ok (.dup, 1) := by decide +kernel
theorem dX8_init_31 : decode cX8_init 31 = .ok (.invokespecial 25, 3) := by decide +kernel
theorem dX8_init_34 : decode cX8_init 34 = .ok (.putfield 26, 3) := by decide +kernel
theorem dX8_init_37 : decode cX8_init 37 = .ok (.aload_n 0, 1) := by decide +kernel
theorem dX8_init_38 : decode cX8_init 38 = .ok (.iconst 2, 1) := by decide +kernel
theorem dX8_init_39 : decode cX8_init 39 = .ok (.anewarray 30, 3) := by decide +kernel
theorem dX8_init_42 : decode cX8_init 42 = .ok (.putfield 32, 3) := by decide +kernel
theorem dX8_init_45 : decode cX8_init 45 = .ok (.iconst 0, 1) := by decide +kernel
theorem dX8_init_46 : decode cX8_init 46 = .ok (.istore_n 1, 1) := by decide +kernel
theorem dX8_init_47 : decode cX8_init 47 = .ok (.iload_n 1, 1) := by decide +kernel
theorem dX8_init_48 : decode cX8_init 48 = .ok (.iconst 2, 1) := by decide +kernel
theorem dX8_init_49 : decode cX8_init 49 = .ok (.if_icmp .ge 22, 3) := by decide +kernel
theorem dX8_init_52 : decode cX8_init 52 = .ok (.aload_n 0, 1) := by decide +kernel
theorem dX8_init_53 : decode cX8_init 53 = .ok (.getfield 32, 3) := by decide +kernel
theorem dX8_init_56 : decode cX8_init 56 = .ok (.iload_n 1, 1) := by decide +kernel
theorem dX8_init_57 : decode cX8_init 57 = .ok (.new 30, 3) := by decide +kernel
theorem dX8_init_60 : decode cX8_init 60 = .ok (.dup, 1) := by decide +kernel
theorem dX8_init_61 : decode cX8_init 61 = .ok (.invokespecial 36, 3) := by decide +kernel
theorem dX8_init_64 : decode cX8_init 64 = .ok (.aastore, 1) := by decide +kernel
theorem dX8_init_65 : decode cX8_init 65 = .ok (.iinc 1 1, 3) := by decide +kernel
theorem dX8_init_68 : decode cX8_init 68 = .ok (.goto (-21), 3) := by decide +kernel
theorem dX8_init_71 : decode cX8_init 71 = .ok (.aload_n 0, 1) := by decide +kernel
theorem dX8_init_72 : decode cX8_init 72 = .ok (.new 37, 3) := by decide +kernel
theorem dX8_init_75 : decode cX8_init 75 = .ok (.dup, 1) := by decide +kernel
theorem dX8_init_76 : decode cX8_init 76 = .ok (.invokespecial 39, 3) := by decide +kernel
theorem dX8_init_79 : decode cX8_init 79 = .ok (.putfield 40, 3) := by decide +kernel
theorem dX8_init_82 : decode cX8_init 82 = .ok (.return_, 1) := by decide +kernel
theorem dX8_reset_0 : decode cX8_reset 0 = .ok (.iload_n 1, 1) := by decide +kernel
theorem dX8_reset_1 : decode cX8_reset 1 = .ok (.iconst 2, 1) := by decide +kernel
theorem dX8_reset_2 : decode cX8_reset 2 = .ok (.bipush 16, 2) := by decide +kernel
theorem dX8_reset_4 : decode cX8_reset 4 = .ok (.invokestatic 44, 3) := by decide +kernel
theorem dX8_reset_7 : decode cX8_reset 7 = .ok (.ifCond .eq 13, 3) := by decide +kernel
theorem dX8_reset_10 : decode cX8_reset 10 = .ok (.iload_n 2, 1) := by decide +kernel
theorem dX8_reset_11 : decode cX8_reset 11 = .ok (.iconst 2, 1) := by decide +kernel
theorem dX8_reset_12 : decode cX8_reset 12 = .ok (.bipush 16, 2) := by decide +kernel
theorem dX8_reset_14 : decode cX8_reset 14 = .ok (.invokestatic 44, 3) := by decide +kernel
theorem dX8_reset_17 : decode cX8_reset 17 = .ok (.ifCond .ne 6, 3) := by decide +kernel
theorem dX8_reset_20 : decode cX8_reset 20 = .ok (.bipush (-2), 2) := by decide +kernel
theorem dX8_reset_22 : decode cX8_reset 22 = .ok (.ireturn, 1) := by decide +kernel
theorem dX8_reset_23 : decode cX8_reset 23 = .ok (.aload_n 0, 1) := by decide +kernel
theorem dX8_reset_24 : decode cX8_reset 24 = .ok (.getfield 19, 3) := by decide +kernel
theorem dX8_reset_27 : decode cX8_reset 27 = .ok (.aload_n 0, 1) := by decide +kernel
theorem dX8_reset_28 : decode cX8_reset 28 = .ok (.getfield 10, 3) := by decide +kernel
theorem dX8_reset_31 : decode cX8_reset 31 = .ok (.getfield 48, 3) := by decide +kernel
theorem dX8_reset_34 : decode cX8_reset 34 = .ok (.invokevirtual 51, 3) := by decide +kernel
theorem dX8_reset_37 : decode cX8_reset 37 = .ok (.aload_n 0, 1) := by decide +kernel
theorem dX8_reset_38 : decode cX8_reset 38 = .ok (.getfield 10, 3) := by decide +kernel
theorem dX8_reset_41 : decode cX8_reset 41 = .ok (.iload_n 1, 1) := by decide +kernel
theorem dX8_reset_42 : decode cX8_reset 42 = .ok (.iload_n 2, 1) := by decide +kernel
theorem dX8_reset_43 : decode cX8_reset 43 = .ok (.invokevirtual 55, 3) := by decide +kernel
theorem dX8_reset_46 : decode cX8_reset 46 = .ok (.iload_n 1, 1) := by decide +kernel
theorem dX8_reset_47 : decode cX8_reset 47 = .ok (.iload_n 2, 1) := by decide +kernel
theorem dX8_reset_48 : decode cX8_reset 48 = .ok (.imul, 1) := by decide +kernel
theorem dX8_reset_49 : decode cX8_reset 49 = .ok (.ireturn, 1) := by decide +kernel
theorem dX8_put_0 : decode cX8_put 0 = .ok (.aload_n 0, 1) := by decide +kernel
theorem dX8_put_1 : decode cX8_put 1 = .ok (.getfield 10, 3) := by decide +kernel
theorem dX8_put_4 : decode cX8_put 4 = .ok (.getfield 48, 3) := by decide +kernel
theorem dX8_put_7 : decode cX8_put 7 = .ok (.iload_n 1, 1) := by decide +kernel
theorem dX8_put_8 : decode cX8_put 8 = .ok (.iload_n 2, 1) := by decide +kernel
theorem dX8_put_9 : decode cX8_put 9 = .ok (.invokevirtual 59, 3) := by decide +kernel
theorem dX8_put_12 : decode cX8_put 12 = .ok (.istore 4, 2) := by decide +kernel
theorem dX8_put_14 : decode cX8_put 14 = .ok (.iload 4, 2) := by decide +kernel
theorem dX8_put_16 : decode cX8_put 16 = .ok (.ifCond .ge 5, 3) := by decide +kernel
theorem dX8_put_19 : decode cX8_put 19 = .ok (.iconst (-1), 1) := by decide +kernel
theorem dX8_put_20 : decode cX8_put 20 = .ok (.ireturn, 1) := by decide +kernel
theorem dX8_put_21 : decode cX8_put 21 = .ok (.iload_n 3, 1) := by decide +kernel
theorem dX8_put_22 : decode cX8_put 22 = .ok (.iconst 0, 1) := by decide +kernel
theorem dX8_put_23 : decode cX8_put 23 = .ok (.bipush 99, 2) := by decide +kernel
theorem dX8_put_25 : decode cX8_put 25 = .ok (.invokestatic 44, 3) := by decide +kernel
theorem dX8_put_28 : decode cX8_put 28 = .ok (.ifCond .ne 6, 3) := by decide +kernel
theorem dX8_put_31 : decode cX8_put 31 = .ok (.bipush (-2), 2) := by decide +kernel
theorem dX8_put_33 : decode cX8_put 33 = .ok (.ireturn, 1) := by decide +kernel
theorem dX8_put_34 : decode cX8_put 34 = .ok (.aload_n 0, 1) := by decide +kernel
theorem dX8_put_35 : decode cX8_put 35 = .ok (.getfield 10, 3) := by decide +kernel
theorem dX8_put_38 : decode cX8_put 38 = .ok (.getfield 48, 3) := by decide +kernel
theorem dX8_put_41 : decode cX8_put 41 = .ok (.iload 4, 2) := by decide +kernel
theorem dX8_put_43 : decode cX8_put 43 = .ok (.invokevirtual 63, 3) := by decide +kernel
theorem dX8_put_46 : decode cX8_put 46 = .ok (.istore 5, 2) := by decide +kernel
theorem dX8_put_48 : decode cX8_put 48 = .ok (.aload_n 0, 1) := by decide +kernel
theorem dX8_put_49 : decode cX8_put 49 = .ok (.getfield 19, 3) := by decide +kernel
theorem dX8_put_52 : decode cX8_put 52 = .ok (.aload_n 0, 1) := by decide +kernel
theorem dX8_put_53 : decode cX8_put 53 = .ok (.getfield 10, 3) := by decide +kernel
theorem dX8_put_56 : decode cX8_put 56 = .ok (.getfield 48, 3) := by decide +kernel
theorem dX8_put_59 : decode cX8_put 59 = .ok (.invokevirtual 51, 3) := by decide +kernel
theorem dX8_put_62 : decode cX8_put 62 = .ok (.aload_n 0, 1) := by decide +kernel
theorem dX8_put_63 : decode cX8_put 63 = .ok (.getfield 10, 3) := by decide +kernel
theorem dX8_put_66 : decode cX8_put 66 = .ok (.iload 4, 2) := by decide +kernel
theorem dX8_put_68 : decode cX8_put 68 = .ok (.iload_n 3, 1) := by decide +kernel
theorem dX8_put_69 : decode cX8_put 69 = .ok (.invokevirtual 67, 3) := by decide +kernel
theorem dX8_put_72 : decode cX8_put 72 = .ok (.iload 5, 2) := by decide +kernel
theorem dX8_put_74 : decode cX8_put 74 = .ok (.ireturn, 1) := by decide +kernel
theorem dX8_strew_0 : decode cX8_strew 0 = .ok (.iload_n 1, 1) := by decide +kernel
theorem dX8_strew_1 : decode cX8_strew 1 = .ok (.iconst 0, 1) := by decide +kernel
theorem dX8_strew_2 : decode cX8_strew 2 = .ok (.bipush 9, 2) := by decide +kernel
theorem dX8_strew_4 : decode cX8_strew 4 = .ok (.invokestatic 44, 3) := by decide +kernel
theorem dX8_strew_7 : decode cX8_strew 7 = .ok (.ifCond .eq 23, 3) := by decide +kernel
theorem dX8_strew_10 : decode cX8_strew 10 = .ok (.iload_n 2, 1) := by decide +kernel
theorem dX8_strew_11 : decode cX8_strew 11 = .ok (.iconst 0, 1) := by decide +kernel
theorem dX8_strew_12 : decode cX8_strew 12 = .ok (.bipush 9, 2) := by decide +kernel
theorem dX8_strew_14 : decode cX8_strew 14 = .ok (.invokestatic 44, 3) := by decide +kernel
theorem dX8_strew_17 : decode cX8_strew 17 = .ok (.ifCond .eq 13, 3) := by decide +kernel
theorem dX8_strew_20 : decode cX8_strew 20 = .ok (.iload_n 3, 1) := by decide +kernel
theorem dX8_strew_21 : decode cX8_strew 21 = .ok (.iconst 1, 1) := by decide +kernel
theorem dX8_strew_22 : decode cX8_strew 22 = .ok (.bipush 20, 2) := by decide +kernel
theorem dX8_strew_24 : decode cX8_strew 24 = .ok (.invokestatic 44, 3) := by decide +kernel
theorem dX8_strew_27 : decode cX8_strew 27 = .ok (.ifCond .ne 6, 3) := by decide +kernel
theorem dX8_strew_30 : decode cX8_strew 30 = .ok (.bipush (-2), 2) := by decide +kernel
theorem dX8_strew_32 : decode cX8_strew 32 = .ok (.ireturn, 1) := by decide +kernel
theorem dX8_strew_33 : decode cX8_strew 33 = .ok (.aload_n 0, 1) := by decide +kernel
theorem dX8_strew_34 : decode cX8_strew 34 = .ok (.getfield 10, 3) := by decide +kernel
theorem dX8_strew_37 : decode cX8_strew 37 = .ok (.iload_n 1, 1) := by decide +kernel
theorem dX8_strew_38 : decode cX8_strew 38 = .ok (.iload_n 2, 1) := by decide +kernel
theorem dX8_strew_39 : decode cX8_strew 39 = .ok (.iload_n 3, 1) := by decide +kernel
theorem dX8_strew_40 : decode cX8_strew 40 = .ok (.iconst 0, 1) := by decide +kernel
theorem dX8_strew_41 : decode cX8_strew 41 = .ok (.invokevirtual 70, 3) := by decide +kernel
theorem dX8_strew_44 : decode cX8_strew 44 = .ok (.istore 4, 2) := by decide +kernel
theorem dX8_strew_46 : decode cX8_strew 46 = .ok (.iload 4, 2) := by decide +kernel
theorem dX8_strew_48 : decode cX8_strew 48 = .ok (.ifCond .ne 6, 3) := by decide +kernel
theorem dX8_strew_51 : decode cX8_strew 51 = .ok (.bipush (-5), 2) := by decide +kernel
theorem dX8_strew_53 : decode cX8_strew 53 = .ok (.ireturn, 1) := by decide +kernel
theorem dX8_strew_54 : decode cX8_strew 54 = .ok (.aload_n 0, 1) := by decide +kernel
theorem dX8_strew_55 : decode cX8_strew 55 = .ok (.getfield 19, 3) := by decide +kernel
theorem dX8_strew_58 : decode cX8_strew 58 = .ok (.aload_n 0, 1) := by decide +kernel
theorem dX8_strew_59 : decode cX8_strew 59 = .ok (.getfield 10, 3) := by decide +kernel
theorem dX8_strew_62 : decode cX8_strew 62 = .ok (.getfield 48, 3) := by decide +kernel
theorem dX8_strew_65 : decode cX8_strew 65 = .ok (.invokevirtual 51, 3) := by decide +kernel
theorem dX8_strew_68 : decode cX8_strew 68 = .ok (.aload_n 0, 1) := by decide +kernel
theorem dX8_strew_69 : decode cX8_strew 69 = .ok (.getfield 10, 3) := by decide +kernel
theorem dX8_strew_72 : decode cX8_strew 72 = .ok (.iload_n 1, 1) := by decide +kernel
theorem dX8_strew_73 : decode cX8_strew 73 = .ok (.iload_n 2, 1) := by decide +kernel
theorem dX8_strew_74 : decode cX8_strew 74 = .ok (.iload_n 3, 1) := by decide +kernel
theorem dX8_strew_75 : decode cX8_strew 75 = .ok (.iconst 1, 1) := by decide +kernel
theorem dX8_strew_76 : decode cX8_strew 76 = .ok (.invokevirtual 70, 3) := by decide +kernel
theorem dX8_strew_79 : decode cX8_strew 79 = .ok (.pop, 1) := by decide +kernel
theorem dX8_strew_80 : decode cX8_strew 80 = .ok (.iload 4, 2) := by decide +kernel
theorem dX8_strew_82 : decode cX8_strew 82 = .ok (.ireturn, 1) := by decide +kernel
theorem dX8_addWalker_0 : decode cX8_addWalker 0 = .ok (.aload_n 0, 1) := by decide +kernel
theorem dX8_addWalker_1 : decode cX8_addWalker 1 = .ok (.getfield 10, 3) := by decide +kernel
theorem dX8_addWalker_4 : decode cX8_addWalker 4 = .ok (.getfield 48, 3) := by decide +kernel
theorem dX8_addWalker_7 : decode cX8_addWalker 7 = .ok (.iload_n 1, 1) := by decide +kernel
theorem dX8_addWalker_8 : decode cX8_addWalker 8 = .ok (.iload_n 2, 1) := by decide +kernel
theorem dX8_addWalker_9 : decode cX8_addWalker 9 = .ok (.invokevirtual 59, 3) := by decide +kernel
theorem dX8_addWalker_12 : decode cX8_addWalker 12 = .ok (.ifCond .ge 5, 3) := by decide +kernel
theorem dX8_addWalker_15 : decode cX8_addWalker 15 = .ok (.iconst (-1), 1) := by decide +kernel
theorem dX8_addWalker_16 : decode cX8_addWalker 16 = .ok (.ireturn, 1) := by decide +kernel
theorem dX8_addWalker_17 : decode cX8_addWalker 17 = .ok (.iload_n 3, 1) := by decide +kernel
theorem dX8_addWalker_18 : decode cX8_addWalker 18 = .ok (.iconst 0, 1) := by decide +kernel
theorem dX8_addWalker_19 : decode cX8_addWalker 19 = .ok (.iconst 3, 1) := by decide +kernel
theorem dX8_addWalker_20 : decode cX8_addWalker 20 = .ok (.invokestatic 44, 3) := by decide +kernel
theorem dX8_addWalker_23 : decode cX8_addWalker 23 = .ok (.ifCond .eq 22, 3) := by decide +kernel
theorem dX8_addWalker_26 : decode cX8_addWalker 26 = .ok (.iload 4, 2) := by decide +kernel
theorem dX8_addWalker_28 : decode cX8_addWalker 28 = .ok (.invokestatic 74, 3) := by decide +kernel
theorem dX8_addWalker_31 : decode cX8_addWalker 31 = .ok (.ifCond .eq 14, 3) := by decide +kernel
theorem dX8_addWalker_34 : decode cX8_addWalker 34 = .ok (.iload 5, 2) := by decide +kernel
theorem dX8_addWalker_36 : decode cX8_addWalker 36 = .ok (.iconst 1, 1) := by decide +kernel
theorem dX8_addWalker_37 : decode cX8_addWalker 37 = .ok (.bipush 9, 2) := by decide +kernel
theorem dX8_addWalker_39 : decode cX8_addWalker 39 = .ok (.invokestatic 44, 3) := by decide +kernel
theorem dX8_addWalker_42 : decode cX8_addWalker 42 = .ok (.ifCond .ne 6, 3) := by decide +kernel
theorem dX8_addWalker_45 : decode cX8_addWalker 45 = .ok (.bipush (-2), 2) := by decide +kernel
theorem dX8_addWalker_47 : decode cX8_addWalker 47 = .ok (.ireturn, 1) := by decide +kernel
theorem dX8_addWalker_48 : decode cX8_addWalker 48 = .ok (.aload_n 0, 1) := by decide +kernel
theorem dX8_addWalker_49 : decode cX8_addWalker 49 = .ok (.getfield 10, 3) := by decide +kernel
theorem dX8_addWalker_52 : decode cX8_addWalker 52 = .ok (.getfield 48, 3) := by decide +kernel
theorem dX8_addWalker_55 : decode cX8_addWalker 55 = .ok (.getfield 78, 3) := by decide +kernel
theorem dX8_addWalker_58 : decode cX8_addWalker 58 = .ok (.istore 6, 2) := by decide +kernel
theorem dX8_addWalker_60 : decode cX8_addWalker 60 = .ok (.iload 6, 2) := by decide +kernel
theorem dX8_addWalker_62 : decode cX8_addWalker 62 = .ok (.bipush 8, 2) := by decide +kernel
theorem dX8_addWalker_64 : decode cX8_addWalker 64 = .ok (.if_icmp .lt 6, 3) := by decide +kernel
theorem dX8_addWalker_67 : decode cX8_addWalker 67 = .ok (.bipush (-3), 2) := by decide +kernel
theorem dX8_addWalker_69 : decode cX8_addWalker 69 = .ok (.ireturn, 1) := by decide +kernel
theorem dX8_addWalker_70 : decode cX8_addWalker 70 = .ok (.aload_n 0, 1) := by decide +kernel
theorem dX8_addWalker_71 : decode cX8_addWalker 71 = .ok (.getfield 19, 3) := by decide +kernel
theorem dX8_addWalker_74 : decode cX8_addWalker 74 = .ok (.aload_n 0, 1) := by decide +kernel
theorem dX8_addWalker_75 : decode cX8_addWalker 75 = .ok (.getfield 10, 3) := by decide +kernel
theorem dX8_addWalker_78 : decode cX8_addWalker 78 = .ok (.getfield 48, 3) := by decide +kernel
theorem dX8_addWalker_81 : decode cX8_addWalker 81 = .ok (.invokevirtual 51, 3) := by decide +kernel
theorem dX8_addWalker_84 : decode cX8_addWalker 84 = .ok (.aload_n 0, 1) := by decide +kernel
theorem dX8_addWalker_85 : decode cX8_addWalker 85 = .ok (.getfield 10, 3) := by decide +kernel
theorem dX8_addWalker_88 : decode cX8_addWalker 88 = .ok (.getfield 48, 3) := by decide +kernel
theorem dX8_addWalker_91 : decode cX8_addWalker 91 = .ok (.iload 6, 2) := by decide +kernel
theorem dX8_addWalker_93 : decode cX8_addWalker 93 = .ok (.iconst 1, 1) := by decide +kernel
theorem dX8_addWalker_94 : decode cX8_addWalker 94 = .ok (.iadd, 1) := by decide +kernel
theorem dX8_addWalker_95 : decode cX8_addWalker 95 = .ok (.putfield 78, 3) := by decide +kernel
theorem dX8_addWalker_98 : decode cX8_addWalker 98 = .ok (.aload_n 0, 1) := by decide +kernel
theorem dX8_addWalker_99 : decode cX8_addWalker 99 = .ok (.getfield 10, 3) := by decide +kernel
theorem dX8_addWalker_102 : decode cX8_addWalker 102 = .ok (.getfield 48, 3) := by decide +kernel
theorem dX8_addWalker_105 : decode cX8_addWalker 105 = .ok (.iload 6, 2) := by decide +kernel
theorem dX8_addWalker_107 : decode cX8_addWalker 107 = .ok (.invokevirtual 82, 3) := by decide +kernel
theorem dX8_addWalker_110 : decode cX8_addWalker 110 = .ok (.astore 7, 2) := by decide +kernel
theorem dX8_addWalker_112 : decode cX8_addWalker 112 = .ok (.aload 7, 2) := by decide +kernel
theorem dX8_addWalker_114 : decode cX8_addWalker 114 = .ok (.ifnull 15, 3) := by decide +kernel
theorem dX8_addWalker_117 : decode cX8_addWalker 117 = .ok (.aload 7, 2) := by decide +kernel
theorem dX8_addWalker_119 : decode cX8_addWalker 119 = .ok (.iload_n 1, 1) := by decide +kernel
theorem dX8_addWalker_120 : decode cX8_addWalker 120 = .ok (.iload_n 2, 1) := by decide +kernel
theorem dX8_addWalker_121 : decode cX8_addWalker 121 = .ok (.iload_n 3, 1) := by decide +kernel
theorem dX8_addWalker_122 : decode cX8_addWalker 122 = .ok (.iload 4, 2) := by decide +kernel
theorem dX8_addWalker_124 : decode cX8_addWalker 124 = .ok (.iload 5, 2) := by decide +kernel
theorem dX8_addWalker_126 : decode cX8_addWalker 126 = .ok (.invokevirtual 86, 3) := by decide +kernel
theorem dX8_addWalker_129 : decode cX8_addWalker 129 = .ok (.iload 6, 2) := by decide +kernel
theorem dX8_addWalker_131 : decode cX8_addWalker 131 = .ok (.ireturn, 1) := by decide +kernel
theorem dX8_setSort_0 : decode cX8_setSort 0 = .ok (.aload_n 0, 1) := by decide +kernel
theorem dX8_setSort_1 : decode cX8_setSort 1 = .ok (.getfield 10, 3) := by decide +kernel
theorem dX8_setSort_4 : decode cX8_setSort 4 = .ok (.getfield 48, 3) := by decide +kernel
theorem dX8_setSort_7 : decode cX8_setSort 7 = .ok (.iload_n 1, 1) := by decide +kernel
theorem dX8_setSort_8 : decode cX8_setSort 8 = .ok (.invokevirtual 82, 3) := by decide +kernel
theorem dX8_setSort_11 : decode cX8_setSort 11 = .ok (.astore_n 3, 1) := by decide +kernel
theorem dX8_setSort_12 : decode cX8_setSort 12 = .ok (.aload_n 3, 1) := by decide +kernel
theorem dX8_setSort_13 : decode cX8_setSort 13 = .ok (.ifnonnull 5, 3) := by decide +kernel
theorem dX8_setSort_16 : decode cX8_setSort 16 = .ok (.iconst (-1), 1) := by decide +kernel
theorem dX8_setSort_17 : decode cX8_setSort 17 = .ok (.ireturn, 1) := by decide +kernel
theorem dX8_setSort_18 : decode cX8_setSort 18 = .ok (.iload_n 2, 1) := by decide +kernel
theorem dX8_setSort_19 : decode cX8_setSort 19 = .ok (.invokestatic 74, 3) := by decide +kernel
theorem dX8_setSort_22 : decode cX8_setSort 22 = .ok (.ifCond .ne 6, 3) := by decide +kernel
theorem dX8_setSort_25 : decode cX8_setSort 25 = .ok (.bipush (-2), 2) := by decide +kernel
theorem dX8_setSort_27 : decode cX8_setSort 27 = .ok (.ireturn, 1) := by decide +kernel
theorem dX8_setSort_28 : decode cX8_setSort 28 = .ok (.aload_n 3, 1) := by decide +kernel
theorem dX8_setSort_29 : decode cX8_setSort 29 = .ok (.getfield 92, 3) := by decide +kernel
theorem dX8_setSort_32 : decode cX8_setSort 32 = .ok (.istore 4, 2) := by decide +kernel
theorem dX8_setSort_34 : decode cX8_setSort 34 = .ok (.aload_n 0, 1) := by decide +kernel
theorem dX8_setSort_35 : decode cX8_setSort 35 = .ok (.getfield 19, 3) := by decide +kernel
theorem dX8_setSort_38 : decode cX8_setSort 38 = .ok (.aload_n 0, 1) := by decide +kernel
theorem dX8_setSort_39 : decode cX8_setSort 39 = .ok (.getfield 10, 3) := by decide +kernel
theorem dX8_setSort_42 : decode cX8_setSort 42 = .ok (.getfield 48, 3) := by decide +kernel
theorem dX8_setSort_45 : decode cX8_setSort 45 = .ok (.invokevirtual 51, 3) := by decide +kernel
theorem dX8_setSort_48 : decode cX8_setSort 48 = .ok (.aload_n 3, 1) := by decide +kernel
theorem dX8_setSort_49 : decode cX8_setSort 49 = .ok (.iload_n 2, 1) := by decide +kernel
theorem dX8_setSort_50 : decode cX8_setSort 50 = .ok (.putfield 92, 3) := by decide +kernel
theorem dX8_setSort_53 : decode cX8_setSort 53 = .ok (.iload 4, 2) := by decide +kernel
theorem dX8_setSort_55 : decode cX8_setSort 55 = .ok (.ireturn, 1) := by decide +kernel
theorem dX8_empty_0 : decode cX8_empty 0 = .ok (.aload_n 0, 1) := by decide +kernel
theorem dX8_empty_1 : decode cX8_empty 1 = .ok (.getfield 10, 3) := by decide +kernel
theorem dX8_empty_4 : decode cX8_empty 4 = .ok (.getfield 48, 3) := by decide +kernel
theorem dX8_empty_7 : decode cX8_empty 7 = .ok (.iload_n 1, 1) := by decide +kernel
theorem dX8_empty_8 : decode cX8_empty 8 = .ok (.invokevirtual 82, 3) := by decide +kernel
theorem dX8_empty_11 : decode cX8_empty 11 = .ok (.astore_n 2, 1) := by decide +kernel
theorem dX8_empty_12 : decode cX8_empty 12 = .ok (.aload_n 2, 1) := by decide +kernel
theorem dX8_empty_13 : decode cX8_empty 13 = .ok (.ifnonnull 5, 3) := by decide +kernel
theorem dX8_empty_16 : decode cX8_empty 16 = .ok (.iconst (-1), 1) := by decide +kernel
theorem dX8_empty_17 : decode cX8_empty 17 = .ok (.ireturn, 1) := by decide +kernel
theorem dX8_empty_18 : decode cX8_empty 18 = .ok (.aload_n 0, 1) := by decide +kernel
theorem dX8_empty_19 : decode cX8_empty 19 = .ok (.getfield 10, 3) := by decide +kernel
theorem dX8_empty_22 : decode cX8_empty 22 = .ok (.aload_n 2, 1) := by decide +kernel
theorem dX8_empty_23 : decode cX8_empty 23 = .ok (.invokevirtual 95, 3) := by decide +kernel
theorem dX8_empty_26 : decode cX8_empty 26 = .ok (.aload_n 2, 1) := by decide +kernel
theorem dX8_empty_27 : decode cX8_empty 27 = .ok (.getfield 99, 3) := by decide +kernel
theorem dX8_empty_30 : decode cX8_empty 30 = .ok (.iadd, 1) := by decide +kernel
theorem dX8_empty_31 : decode cX8_empty 31 = .ok (.bipush 99, 2) := by decide +kernel
theorem dX8_empty_33 : decode cX8_empty 33 = .ok (.if_icmp .le 6, 3) := by decide +kernel
theorem dX8_empty_36 : decode cX8_empty 36 = .ok (.bipush (-4), 2) := by decide +kernel
theorem dX8_empty_38 : decode cX8_empty 38 = .ok (.ireturn, 1) := by decide +kernel
theorem dX8_empty_39 : decode cX8_empty 39 = .ok (.aload_n 2, 1) := by decide +kernel
theorem dX8_empty_40 : decode cX8_empty 40 = .ok (.getfield 99, 3) := by decide +kernel
theorem dX8_empty_43 : decode cX8_empty 43 = .ok (.ifCond .ne 6, 3) := by decide +kernel
theorem dX8_empty_46 : decode cX8_empty 46 = .ok (.bipush (-5), 2) := by decide +kernel
theorem dX8_empty_48 : decode cX8_empty 48 = .ok (.ireturn, 1) := by decide +kernel
theorem dX8_empty_49 : decode cX8_empty 49 = .ok (.aload_n 0, 1) := by decide +kernel
theorem dX8_empty_50 : decode cX8_empty 50 = .ok (.getfield 19, 3) := by decide +kernel
theorem dX8_empty_53 : decode cX8_empty 53 = .ok (.aload_n 0, 1) := by decide +kernel
theorem dX8_empty_54 : decode cX8_empty 54 = .ok (.getfield 10, 3) := by decide +kernel
theorem dX8_empty_57 : decode cX8_empty 57 = .ok (.getfield 48, 3) := by decide +kernel
theorem dX8_empty_60 : decode cX8_empty 60 = .ok (.invokevirtual 51, 3) := by decide +kernel
theorem dX8_empty_63 : decode cX8_empty 63 = .ok (.aload_n 0, 1) := by decide +kernel
theorem dX8_empty_64 : decode cX8_empty 64 = .ok (.getfield 10, 3) := by decide +kernel
theorem dX8_empty_67 : decode cX8_empty 67 = .ok (.aload_n 2, 1) := by decide +kernel
theorem dX8_empty_68 : decode cX8_empty 68 = .ok (.aload_n 2, 1) := by decide +kernel
theorem dX8_empty_69 : decode cX8_empty 69 = .ok (.getfield 99, 3) := by decide +kernel
theorem dX8_empty_72 : decode cX8_empty 72 = .ok (.ineg, 1) := by decide +kernel
theorem dX8_empty_73 : decode cX8_empty 73 = .ok (.invokevirtual 102, 3) := by decide +kernel
theorem dX8_empty_76 : decode cX8_empty 76 = .ok (.aload_n 0, 1) := by decide +kernel
theorem dX8_empty_77 : decode cX8_empty 77 = .ok (.getfield 10, 3) := by decide +kernel
theorem dX8_empty_80 : decode cX8_empty 80 = .ok (.aload_n 2, 1) := by decide +kernel
theorem dX8_empty_81 : decode cX8_empty 81 = .ok (.invokevirtual 95, 3) := by decide +kernel
theorem dX8_empty_84 : decode cX8_empty 84 = .ok (.ireturn, 1) := by decide +kernel
theorem dX8_addTurn_0 : decode cX8_addTurn 0 = .ok (.iload_n 1, 1) := by decide +kernel
theorem dX8_addTurn_1 : decode cX8_addTurn 1 = .ok (.iconst 0, 1) := by decide +kernel
theorem dX8_addTurn_2 : decode cX8_addTurn 2 = .ok (.bipush 9, 2) := by decide +kernel
theorem dX8_addTurn_4 : decode cX8_addTurn 4 = .ok (.invokestatic 44, 3) := by decide +kernel
theorem dX8_addTurn_7 : decode cX8_addTurn 7 = .ok (.ifCond .ne 6, 3) := by decide +kernel
theorem dX8_addTurn_10 : decode cX8_addTurn 10 = .ok (.bipush (-2), 2) := by decide +kernel
theorem dX8_addTurn_12 : decode cX8_addTurn 12 = .ok (.ireturn, 1) := by decide +kernel
theorem dX8_addTurn_13 : decode cX8_addTurn 13 = .ok (.aload_n 0, 1) := by decide +kernel
theorem dX8_addTurn_14 : decode cX8_addTurn 14 = .ok (.getfield 10, 3) := by decide +kernel
theorem dX8_addTurn_17 : decode cX8_addTurn 17 = .ok (.getfield 48, 3) := by decide +kernel
theorem dX8_addTurn_20 : decode cX8_addTurn 20 = .ok (.getfield 106, 3) := by decide +kernel
theorem dX8_addTurn_23 : decode cX8_addTurn 23 = .ok (.getfield 110, 3) := by decide +kernel
theorem dX8_addTurn_26 : decode cX8_addTurn 26 = .ok (.bipush 30, 2) := by decide +kernel
theorem dX8_addTurn_28 : decode cX8_addTurn 28 = .ok (.if_icmp .lt 6, 3) := by decide +kernel
theorem dX8_addTurn_31 : decode cX8_addTurn 31 = .ok (.bipush (-3), 2) := by decide +kernel
theorem dX8_addTurn_33 : decode cX8_addTurn 33 = .ok (.ireturn, 1) := by decide +kernel
theorem dX8_addTurn_34 : decode cX8_addTurn 34 = .ok (.aload_n 0, 1) := by decide +kernel
theorem dX8_addTurn_35 : decode cX8_addTurn 35 = .ok (.getfield 19, 3) := by decide +kernel
theorem dX8_addTurn_38 : decode cX8_addTurn 38 = .ok (.aload_n 0, 1) := by decide +kernel
theorem dX8_addTurn_39 : decode cX8_addTurn 39 = .ok (.getfield 10, 3) := by decide +kernel
theorem dX8_addTurn_42 : decode cX8_addTurn 42 = .ok (.getfield 48, 3) := by decide +kernel
theorem dX8_addTurn_45 : decode cX8_addTurn 45 = .ok (.invokevirtual 51, 3) := by decide +kernel
theorem dX8_addTurn_48 : decode cX8_addTurn 48 = .ok (.aload_n 0, 1) := by decide +kernel
theorem dX8_addTurn_49 : decode cX8_addTurn 49 = .ok (.getfield 10, 3) := by decide +kernel
theorem dX8_addTurn_52 : decode cX8_addTurn 52 = .ok (.getfield 48, 3) := by decide +kernel
theorem dX8_addTurn_55 : decode cX8_addTurn 55 = .ok (.getfield 106, 3) := by decide +kernel
theorem dX8_addTurn_58 : decode cX8_addTurn 58 = .ok (.iload_n 1, 1) := by decide +kernel
theorem dX8_addTurn_59 : decode cX8_addTurn 59 = .ok (.invokevirtual 115, 3) := by decide +kernel
theorem dX8_addTurn_62 : decode cX8_addTurn 62 = .ok (.aload_n 0, 1) := by decide +kernel
theorem dX8_addTurn_63 : decode cX8_addTurn 63 = .ok (.getfield 10, 3) := by decide +kernel
theorem dX8_addTurn_66 : decode cX8_addTurn 66 = .ok (.getfield 48, 3) := by decide +kernel
theorem dX8_addTurn_69 : decode cX8_addTurn 69 = .ok (.getfield 106, 3) := by decide +kernel
theorem dX8_addTurn_72 : decode cX8_addTurn 72 = .ok (.getfield 110, 3) := by decide +kernel
theorem dX8_addTurn_75 : decode cX8_addTurn 75 = .ok (.ireturn, 1) := by decide +kernel
theorem dX8_clearTurns_0 : decode cX8_clearTurns 0 = .ok (.aload_n 0, 1) := by decide +kernel
theorem dX8_clearTurns_1 : decode cX8_clearTurns 1 = .ok (.getfield 10, 3) := by decide +kernel
theorem dX8_clearTurns_4 : decode cX8_clearTurns 4 = .ok (.getfield 48, 3) := by decide +kernel
theorem dX8_clearTurns_7 : decode cX8_clearTurns 7 = .ok (.getfield 106, 3) := by decide +kernel
theorem dX8_clearTurns_10 : decode cX8_clearTurns 10 = .ok (.getfield 110, 3) := by decide +kernel
theorem dX8_clearTurns_13 : decode cX8_clearTurns 13 = .ok (.istore_n 1, 1) := by decide +kernel
theorem dX8_clearTurns_14 : decode cX8_clearTurns 14 = .ok (.aload_n 0, 1) := by decide +kernel
theorem dX8_clearTurns_15 : decode cX8_clearTurns 15 = .ok (.getfield 19, 3) := by decide +kernel
theorem dX8_clearTurns_18 : decode cX8_clearTurns 18 = .ok (.aload_n 0, 1) := by decide +kernel
theorem dX8_clearTurns_19 : decode cX8_clearTurns 19 = .ok (.getfield 10, 3) := by decide +kernel
theorem dX8_clearTurns_22 : decode cX8_clearTurns 22 = .ok (.getfield 48, 3) := by decide +kernel
theorem dX8_clearTurns_25 : decode cX8_clearTurns 25 = .ok (.invokevirtual 51, 3) := by decide +kernel
theorem dX8_clearTurns_28 : decode cX8_clearTurns 28 = .ok (.aload_n 0, 1) := by decide +kernel
theorem dX8_clearTurns_29 : decode cX8_clearTurns 29 = .ok (.getfield 10, 3) := by decide +kernel
theorem dX8_clearTurns_32 : decode cX8_clearTurns 32 = .ok (.getfield 48, 3) := by decide +kernel
theorem dX8_clearTurns_35 : decode cX8_clearTurns 35 = .ok (.getfield 106, 3) := by decide +kernel
theorem dX8_clearTurns_38 : decode cX8_clearTurns 38 = .ok (.invokevirtual 119, 3) := by decide +kernel
theorem dX8_clearTurns_41 : decode cX8_clearTurns 41 = .ok (.iload_n 1, 1) := by decide +kernel
theorem dX8_clearTurns_42 : decode cX8_clearTurns 42 = .ok (.ireturn, 1) := by decide +kernel
theorem dX8_walk_0 : decode cX8_walk 0 = .ok (.aload_n 0, 1) := by decide +kernel
theorem dX8_walk_1 : decode cX8_walk 1 = .ok (.getfield 10, 3) := by decide +kernel
theorem dX8_walk_4 : decode cX8_walk 4 = .ok (.getfield 48, 3) := by decide +kernel
theorem dX8_walk_7 : decode cX8_walk 7 = .ok (.iload_n 1, 1) := by decide +kernel
theorem dX8_walk_8 : decode cX8_walk 8 = .ok (.invokevirtual 82, 3) := by decide +kernel
theorem dX8_walk_11 : decode cX8_walk 11 = .ok (.astore_n 3, 1) := by decide +kernel
theorem dX8_walk_12 : decode cX8_walk 12 = .ok (.aload_n 3, 1) := by decide +kernel
theorem dX8_walk_13 : decode cX8_walk 13 = .ok (.ifnonnull 5, 3) := by decide +kernel
theorem dX8_walk_16 : decode cX8_walk 16 = .ok (.iconst (-1), 1) := by decide +kernel
theorem dX8_walk_17 : decode cX8_walk 17 = .ok (.ireturn, 1) := by decide +kernel
theorem dX8_walk_18 : decode cX8_walk 18 = .ok (.iload_n 2, 1) := by decide +kernel
theorem dX8_walk_19 : decode cX8_walk 19 = .ok (.iconst 1, 1) := by decide +kernel
theorem dX8_walk_20 : decode cX8_walk 20 = .ok (.bipush 100, 2) := by decide +kernel
theorem dX8_walk_22 : decode cX8_walk 22 = .ok (.invokestatic 44, 3) := by decide +kernel
theorem dX8_walk_25 : decode cX8_walk 25 = .ok (.ifCond .ne 6, 3) := by decide +kernel
theorem dX8_walk_28 : decode cX8_walk 28 = .ok (.bipush (-2), 2) := by decide +kernel
theorem dX8_walk_30 : decode cX8_walk 30 = .ok (.ireturn, 1) := by decide +kernel
theorem dX8_walk_31 : decode cX8_walk 31 = .ok (.aload_n 0, 1) := by decide +kernel
theorem dX8_walk_32 : decode cX8_walk 32 = .ok (.getfield 19, 3) := by decide +kernel
theorem dX8_walk_35 : decode cX8_walk 35 = .ok (.aload_n 0, 1) := by decide +kernel
theorem dX8_walk_36 : decode cX8_walk 36 = .ok (.getfield 10, 3) := by decide +kernel
theorem dX8_walk_39 : decode cX8_walk 39 = .ok (.getfield 48, 3) := by decide +kernel
theorem dX8_walk_42 : decode cX8_walk 42 = .ok (.invokevirtual 51, 3) := by decide +kernel
theorem dX8_walk_45 : decode cX8_walk 45 = .ok (.iconst 0, 1) := by decide +kernel
theorem dX8_walk_46 : decode cX8_walk 46 = .ok (.istore 4, 2) := by decide +kernel
theorem dX8_walk_48 : decode cX8_walk 48 = .ok (.iload 4, 2) := by decide +kernel
theorem dX8_walk_50 : decode cX8_walk 50 = .ok (.iload_n 2, 1) := by decide +kernel
theorem dX8_walk_51 : decode cX8_walk 51 = .ok (.if_icmp .ge 17, 3) := by decide +kernel
theorem dX8_walk_54 : decode cX8_walk 54 = .ok (.aload_n 0, 1) := by decide +kernel
theorem dX8_walk_55 : decode cX8_walk 55 = .ok (.getfield 10, 3) := by decide +kernel
theorem dX8_walk_58 : decode cX8_walk 58 = .ok (.aload_n 3, 1) := by decide +kernel
theorem dX8_walk_59 : decode cX8_walk 59 = .ok (.invokevirtual 121, 3) := by decide +kernel
theorem dX8_walk_62 : decode cX8_walk 62 = .ok (.iinc 4 1, 3) := by decide +kernel
theorem dX8_walk_65 : decode cX8_walk 65 = .ok (.goto (-17), 3) := by decide +kernel
theorem dX8_walk_68 : decode cX8_walk 68 = .ok (.aload_n 3, 1) := by decide +kernel
theorem dX8_walk_69 : decode cX8_walk 69 = .ok (.getfield 99, 3) := by decide +kernel
theorem dX8_walk_72 : decode cX8_walk 72 = .ok (.ireturn, 1) := by decide +kernel
theorem dX8_rounds_0 : decode cX8_rounds 0 = .ok (.iload_n 1, 1) := by decide +kernel
theorem dX8_rounds_1 : decode cX8_rounds 1 = .ok (.iconst 1, 1) := by decide +kernel
theorem dX8_rounds_2 : decode cX8_rounds 2 = .ok (.bipush 50, 2) := by decide +kernel
theorem dX8_rounds_4 : decode cX8_rounds 4 = .ok (.invokestatic 44, 3) := by decide +kernel
theorem dX8_rounds_7 : decode cX8_rounds 7 = .ok (.ifCond .ne 6, 3) := by decide +kernel
theorem dX8_rounds_10 : decode cX8_rounds 10 = .ok (.bipush (-2), 2) := by decide +kernel
theorem dX8_rounds_12 : decode cX8_rounds 12 = .ok (.ireturn, 1) := by decide +kernel
theorem dX8_rounds_13 : decode cX8_rounds 13 = .ok (.aload_n 0, 1) := by decide +kernel
theorem dX8_rounds_14 : decode cX8_rounds 14 = .ok (.getfield 10, 3) := by decide +kernel
theorem dX8_rounds_17 : decode cX8_rounds 17 = .ok (.getfield 48, 3) := by decide +kernel
theorem dX8_rounds_20 : decode cX8_rounds 20 = .ok (.getfield 78, 3) := by decide +kernel
theorem dX8_rounds_23 : decode cX8_rounds 23 = .ok (.ifCond .ne 6, 3) := by decide +kernel
theorem dX8_rounds_26 : decode cX8_rounds 26 = .ok (.bipush (-5), 2) := by decide +kernel
theorem dX8_rounds_28 : decode cX8_rounds 28 = .ok (.ireturn, 1) := by decide +kernel
theorem dX8_rounds_29 : decode cX8_rounds 29 = .ok (.aload_n 0, 1) := by decide +kernel
theorem dX8_rounds_30 : decode cX8_rounds 30 = .ok (.getfield 19, 3) := by decide +kernel
theorem dX8_rounds_33 : decode cX8_rounds 33 = .ok (.aload_n 0, 1) := by decide +kernel
theorem dX8_rounds_34 : decode cX8_rounds 34 = .ok (.getfield 10, 3) := by decide +kernel
theorem dX8_rounds_37 : decode cX8_rounds 37 = .ok (.getfield 48, 3) := by decide +kernel
theorem dX8_rounds_40 : decode cX8_rounds 40 = .ok (.invokevirtual 51, 3) := by decide +kernel
theorem dX8_rounds_43 : decode cX8_rounds 43 = .ok (.aload_n 0, 1) := by decide +kernel
theorem dX8_rounds_44 : decode cX8_rounds 44 = .ok (.getfield 10, 3) := by decide +kernel
theorem dX8_rounds_47 : decode cX8_rounds 47 = .ok (.iload_n 1, 1) := by decide +kernel
theorem dX8_rounds_48 : decode cX8_rounds 48 = .ok (.invokevirtual 125, 3) := by decide +kernel
theorem dX8_rounds_51 : decode cX8_rounds 51 = .ok (.aload_n 0, 1) := by decide +kernel
theorem dX8_rounds_52 : decode cX8_rounds 52 = .ok (.getfield 10, 3) := by decide +kernel
theorem dX8_rounds_55 : decode cX8_rounds 55 = .ok (.getfield 128, 3) := by decide +kernel
theorem dX8_rounds_58 : decode cX8_rounds 58 = .ok (.aload_n 0, 1) := by decide +kernel
theorem dX8_rounds_59 : decode cX8_rounds 59 = .ok (.getfield 10, 3) := by decide +kernel
theorem dX8_rounds_62 : decode cX8_rounds 62 = .ok (.getfield 48, 3) := by decide +kernel
theorem dX8_rounds_65 : decode cX8_rounds 65 = .ok (.getfield 132, 3) := by decide +kernel
theorem dX8_rounds_68 : decode cX8_rounds 68 = .ok (.invokevirtual 136, 3) := by decide +kernel
theorem dX8_rounds_71 : decode cX8_rounds 71 = .ok (.ireturn, 1) := by decide +kernel
theorem dX8_type_0 : decode cX8_type 0 = .ok (.aload_n 0, 1) := by decide +kernel
theorem dX8_type_1 : decode cX8_type 1 = .ok (.getfield 26, 3) := by decide +kernel
theorem dX8_type_4 : decode cX8_type 4 = .ok (.iload_n 1, 1) := by decide +kernel
theorem dX8_type_5 : decode cX8_type 5 = .ok (.invokevirtual 142, 3) := by decide +kernel
theorem dX8_type_8 : decode cX8_type 8 = .ok (.ifCond .ne 6, 3) := by decide +kernel
theorem dX8_type_11 : decode cX8_type 11 = .ok (.bipush (-3), 2) := by decide +kernel
theorem dX8_type_13 : decode cX8_type 13 = .ok (.ireturn, 1) := by decide +kernel
theorem dX8_type_14 : decode cX8_type 14 = .ok (.aload_n 0, 1) := by decide +kernel
theorem dX8_type_15 : decode cX8_type 15 = .ok (.getfield 26, 3) := by decide +kernel
theorem dX8_type_18 : decode cX8_type 18 = .ok (.getfield 145, 3) := by decide +kernel
theorem dX8_type_21 : decode cX8_type 21 = .ok (.ireturn, 1) := by decide +kernel
theorem dX8_clearText_0 : decode cX8_clearText 0 = .ok (.aload_n 0, 1) := by decide +kernel
theorem dX8_clearText_1 : decode cX8_clearText 1 = .ok (.getfield 26, 3) := by decide +kernel
theorem dX8_clearText_4 : decode cX8_clearText 4 = .ok (.getfield 145, 3) := by decide +kernel
theorem dX8_clearText_7 : decode cX8_clearText 7 = .ok (.istore_n 1, 1) := by decide +kernel
theorem dX8_clearText_8 : decode cX8_clearText 8 = .ok (.aload_n 0, 1) := by decide +kernel
theorem dX8_clearText_9 : decode cX8_clearText 9 = .ok (.getfield 26, 3) := by decide +kernel
theorem dX8_clearText_12 : decode cX8_clearText 12 = .ok (.iconst 0, 1) := by decide +kernel
theorem dX8_clearText_13 : decode cX8_clearText 13 = .ok (.putfield 145, 3) := by decide +kernel
theorem dX8_clearText_16 : decode cX8_clearText 16 = .ok (.iload_n 1, 1) := by decide +kernel
theorem dX8_clearText_17 : decode cX8_clearText 17 = .ok (.ireturn, 1) := by decide +kernel
theorem dX8_run_0 : decode cX8_run 0 = .ok (.aload_n 0, 1) := by decide +kernel
theorem dX8_run_1 : decode cX8_run 1 = .ok (.getfield 26, 3) := by decide +kernel
theorem dX8_run_4 : decode cX8_run 4 = .ok (.aload_n 0, 1) := by decide +kernel
theorem dX8_run_5 : decode cX8_run 5 = .ok (.getfield 10, 3) := by decide +kernel
theorem dX8_run_8 : decode cX8_run 8 = .ok (.getfield 48, 3) := by decide +kernel
theorem dX8_run_11 : decode cX8_run 11 = .ok (.getfield 78, 3) := by decide +kernel
theorem dX8_run_14 : decode cX8_run 14 = .ok (.invokevirtual 148, 3) := by decide +kernel
theorem dX8_run_17 : decode cX8_run 17 = .ok (.istore_n 1, 1) := by decide +kernel
theorem dX8_run_18 : decode cX8_run 18 = .ok (.iload_n 1, 1) := by decide +kernel
theorem dX8_run_19 : decode cX8_run 19 = .ok (.ifCond .lt 8, 3) := by decide +kernel
theorem dX8_run_22 : decode cX8_run 22 = .ok (.bipush (-100), 2) := by decide +kernel
theorem dX8_run_24 : decode cX8_run 24 = .ok (.iload_n 1, 1) := by decide +kernel
theorem dX8_run_25 : decode cX8_run 25 = .ok (.isub, 1) := by decide +kernel
theorem dX8_run_26 : decode cX8_run 26 = .ok (.ireturn, 1) := by decide +kernel
theorem dX8_run_27 : decode cX8_run 27 = .ok (.aload_n 0, 1) := by decide +kernel
theorem dX8_run_28 : decode cX8_run 28 = .ok (.getfield 19, 3) := by decide +kernel
theorem dX8_run_31 : decode cX8_run 31 = .ok (.aload_n 0, 1) := by decide +kernel
theorem dX8_run_32 : decode cX8_run 32 = .ok (.getfield 10, 3) := by decide +kernel
theorem dX8_run_35 : decode cX8_run 35 = .ok (.getfield 48, 3) := by decide +kernel
theorem dX8_run_38 : decode cX8_run 38 = .ok (.invokevirtual 51, 3) := by decide +kernel
theorem dX8_run_41 : decode cX8_run 41 = .ok (.aload_n 0, 1) := by decide +kernel
theorem dX8_run_42 : decode cX8_run 42 = .ok (.getfield 10, 3) := by decide +kernel
theorem dX8_run_45 : decode cX8_run 45 = .ok (.getfield 48, 3) := by decide +kernel
theorem dX8_run_48 : decode cX8_run 48 = .ok (.invokevirtual 151, 3) := by decide +kernel
theorem dX8_run_51 : decode cX8_run 51 = .ok (.istore_n 2, 1) := by decide +kernel
theorem dX8_run_52 : decode cX8_run 52 = .ok (.aload_n 0, 1) := by decide +kernel
theorem dX8_run_53 : decode cX8_run 53 = .ok (.getfield 10, 3) := by decide +kernel
theorem dX8_run_56 : decode cX8_run 56 = .ok (.getfield 48, 3) := by decide +kernel
theorem dX8_run_59 : decode cX8_run 59 = .ok (.iconst 0, 1) := by decide +kernel
theorem dX8_run_60 : decode cX8_run 60 = .ok (.invokevirtual 82, 3) := by decide +kernel
theorem dX8_run_63 : decode cX8_run 63 = .ok (.astore_n 3, 1) := by decide +kernel
theorem dX8_run_64 : decode cX8_run 64 = .ok (.iconst 0, 1) := by decide +kernel
theorem dX8_run_65 : decode cX8_run 65 = .ok (.istore 4, 2) := by decide +kernel
theorem dX8_run_67 : decode cX8_run 67 = .ok (.iload 4, 2) := by decide +kernel
theorem dX8_run_69 : decode cX8_run 69 = .ok (.aload_n 0, 1) := by decide +kernel
theorem dX8_run_70 : decode cX8_run 70 = .ok (.getfield 26, 3) := by decide +kernel
theorem dX8_run_73 : decode cX8_run 73 = .ok (.getfield 155, 3) := by decide +kernel
theorem dX8_run_76 : decode cX8_run 76 = .ok (.if_icmp .ge 89, 3) := by decide +kernel
theorem dX8_run_79 : decode cX8_run 79 = .ok (.aload_n 0, 1) := by decide +kernel
theorem dX8_run_80 : decode cX8_run 80 = .ok (.getfield 26, 3) := by decide +kernel
theorem dX8_run_83 : decode cX8_run 83 = .ok (.iload 4, 2) := by decide +kernel
theorem dX8_run_85 : decode cX8_run 85 = .ok (.invokevirtual 158, 3) := by decide +kernel
theorem dX8_run_88 : decode cX8_run 88 = .ok (.istore 5, 2) := by decide +kernel
theorem dX8_run_90 : decode cX8_run 90 = .ok (.aload_n 0, 1) := by decide +kernel
theorem dX8_run_91 : decode cX8_run 91 = .ok (.getfield 26, 3) := by decide +kernel
theorem dX8_run_94 : decode cX8_run 94 = .ok (.iload 4, 2) := by decide +kernel
theorem dX8_run_96 : decode cX8_run 96 = .ok (.invokevirtual 162, 3) := by decide +kernel
theorem dX8_run_99 : decode cX8_run 99 = .ok (.istore 6, 2) := by decide +kernel
theorem dX8_run_101 : decode cX8_run 101 = .ok (.iload 5, 2) := by decide +kernel
theorem dX8_run_103 : decode cX8_run 103 = .ok (.bipush 35, 2) := by decide +kernel
theorem dX8_run_105 : decode cX8_run 105 = .ok (.if_icmp .ne 19, 3) := by decide +kernel
theorem dX8_run_108 : decode cX8_run 108 = .ok (.aload_n 0, 1) := by decide +kernel
theorem dX8_run_109 : decode cX8_run 109 = .ok (.getfield 10, 3) := by decide +kernel
theorem dX8_run_112 : decode cX8_run 112 = .ok (.getfield 48, 3) := by decide +kernel
theorem dX8_run_115 : decode cX8_run 115 = .ok (.iload 6, 2) := by decide +kernel
theorem dX8_run_117 : decode cX8_run 117 = .ok (.invokevirtual 82, 3) := by decide +kernel
theorem dX8_run_120 : decode cX8_run 120 = .ok (.astore_n 3, 1) := by decide +kernel
theorem dX8_run_121 : decode cX8_run 121 = .ok (.goto 38, 3) := by decide +kernel
theorem dX8_run_124 : decode cX8_run 124 = .ok (.iload 5, 2) := by decide +kernel
theorem dX8_run_126 : decode cX8_run 126 = .ok (.bipush 114, 2) := by decide +kernel
theorem dX8_run_128 : decode cX8_run 128 = .ok (.if_icmp .ne 15, 3) := by decide +kernel
theorem dX8_run_131 : decode cX8_run 131 = .ok (.aload_n 0, 1) := by decide +kernel
theorem dX8_run_132 : decode cX8_run 132 = .ok (.getfield 10, 3) := by decide +kernel
theorem dX8_run_135 : decode cX8_run 135 = .ok (.iload 6, 2) := by decide +kernel
theorem dX8_run_137 : decode cX8_run 137 = .ok (.invokevirtual 125, 3) := by decide +kernel
theorem dX8_run_140 : decode cX8_run 140 = .ok (.goto 19, 3) := by decide +kernel
theorem dX8_run_143 : decode cX8_run 143 = .ok (.aload_n 3, 1) := by decide +kernel
theorem dX8_run_144 : decode cX8_run 144 = .ok (.ifnull 15, 3) := by decide +kernel
theorem dX8_run_147 : decode cX8_run 147 = .ok (.aload_n 0, 1) := by decide +kernel
theorem dX8_run_148 : decode cX8_run 148 = .ok (.getfield 10, 3) := by decide +kernel
theorem dX8_run_151 : decode cX8_run 151 = .ok (.aload_n 3, 1) := by decide +kernel
theorem dX8_run_152 : decode cX8_run 152 = .ok (.iload 5, 2) := by decide +kernel
theorem dX8_run_154 : decode cX8_run 154 = .ok (.iload 6, 2) := by decide +kernel
theorem dX8_run_156 : decode cX8_run 156 = .ok (.invokevirtual 165, 3) := by decide +kernel
theorem dX8_run_159 : decode cX8_run 159 = .ok (.iinc 4 1, 3) := by decide +kernel
theorem dX8_run_162 : decode cX8_run 162 = .ok (.goto (-95), 3) := by decide +kernel
theorem dX8_run_165 : decode cX8_run 165 = .ok (.aload_n 0, 1) := by decide +kernel
theorem dX8_run_166 : decode cX8_run 166 = .ok (.getfield 10, 3) := by decide +kernel
theorem dX8_run_169 : decode cX8_run 169 = .ok (.getfield 48, 3) := by decide +kernel
theorem dX8_run_172 : decode cX8_run 172 = .ok (.invokevirtual 151, 3) := by decide +kernel
theorem dX8_run_175 : decode cX8_run 175 = .ok (.iload_n 2, 1) := by decide +kernel
theorem dX8_run_176 : decode cX8_run 176 = .ok (.isub, 1) := by decide +kernel
theorem dX8_run_177 : decode cX8_run 177 = .ok (.ireturn, 1) := by decide +kernel
theorem dX8_undo_0 : decode cX8_undo 0 = .ok (.aload_n 0, 1) := by decide +kernel
theorem dX8_undo_1 : decode cX8_undo 1 = .ok (.getfield 19, 3) := by decide +kernel
theorem dX8_undo_4 : decode cX8_undo 4 = .ok (.invokevirtual 169, 3) := by decide +kernel
theorem dX8_undo_7 : decode cX8_undo 7 = .ok (.astore_n 1, 1) := by decide +kernel
theorem dX8_undo_8 : decode cX8_undo 8 = .ok (.aload_n 1, 1) := by decide +kernel
theorem dX8_undo_9 : decode cX8_undo 9 = .ok (.ifnonnull 6, 3) := by decide +kernel
theorem dX8_undo_12 : decode cX8_undo 12 = .ok (.bipush (-5), 2) := by decide +kernel
theorem dX8_undo_14 : decode cX8_undo 14 = .ok (.ireturn, 1) := by decide +kernel
theorem dX8_undo_15 : decode cX8_undo 15 = .ok (.aload_n 0, 1) := by decide +kernel
theorem dX8_undo_16 : decode cX8_undo 16 = .ok (.getfield 10, 3) := by decide +kernel
theorem dX8_undo_19 : decode cX8_undo 19 = .ok (.aload_n 1, 1) := by decide +kernel
theorem dX8_undo_20 : decode cX8_undo 20 = .ok (.invokevirtual 173, 3) := by decide +kernel
theorem dX8_undo_23 : decode cX8_undo 23 = .ok (.aload_n 0, 1) := by decide +kernel
theorem dX8_undo_24 : decode cX8_undo 24 = .ok (.getfield 19, 3) := by decide +kernel
theorem dX8_undo_27 : decode cX8_undo 27 = .ok (.getfield 176, 3) := by decide +kernel
theorem dX8_undo_30 : decode cX8_undo 30 = .ok (.ireturn, 1) := by decide +kernel
theorem dX8_keep_0 : decode cX8_keep 0 = .ok (.aload_n 0, 1) := by decide +kernel
theorem dX8_keep_1 : decode cX8_keep 1 = .ok (.iload_n 1, 1) := by decide +kernel
theorem dX8_keep_2 : decode cX8_keep 2 = .ok (.invokevirtual 177, 3) := by decide +kernel
theorem dX8_keep_5 : decode cX8_keep 5 = .ok (.astore_n 2, 1) := by decide +kernel
theorem dX8_keep_6 : decode cX8_keep 6 = .ok (.aload_n 2, 1) := by decide +kernel
theorem dX8_keep_7 : decode cX8_keep 7 = .ok (.ifnonnull 5, 3) := by decide +kernel
theorem dX8_keep_10 : decode cX8_keep 10 = .ok (.iconst (-1), 1) := by decide +kernel
theorem dX8_keep_11 : decode cX8_keep 11 = .ok (.ireturn, 1) := by decide +kernel
theorem dX8_keep_12 : decode cX8_keep 12 = .ok (.aload_n 2, 1) := by decide +kernel
theorem dX8_keep_13 : decode cX8_keep 13 = .ok (.getfield 181, 3) := by decide +kernel
theorem dX8_keep_16 : decode cX8_keep 16 = .ok (.aload_n 0, 1) := by decide +kernel
theorem dX8_keep_17 : decode cX8_keep 17 = .ok (.getfield 10, 3) := by decide +kernel
theorem dX8_keep_20 : decode cX8_keep 20 = .ok (.getfield 48, 3) := by decide +kernel
theorem dX8_keep_23 : decode cX8_keep 23 = .ok (.invokevirtual 184, 3) := by decide +kernel
theorem dX8_keep_26 : decode cX8_keep 26 = .ok (.aload_n 2, 1) := by decide +kernel
theorem dX8_keep_27 : decode cX8_keep 27 = .ok (.iconst 1, 1) := by decide +kernel
theorem dX8_keep_28 : decode cX8_keep 28 = .ok (.putfield 187, 3) := by decide +kernel
theorem dX8_keep_31 : decode cX8_keep 31 = .ok (.aload_n 0, 1) := by decide +kernel
theorem dX8_keep_32 : decode cX8_keep 32 = .ok (.getfield 10, 3) := by decide +kernel
theorem dX8_keep_35 : decode cX8_keep 35 = .ok (.getfield 48, 3) := by decide +kernel
theorem dX8_keep_38 : decode cX8_keep 38 = .ok (.invokevirtual 191, 3) := by decide +kernel
theorem dX8_keep_41 : decode cX8_keep 41 = .ok (.ireturn, 1) := by decide +kernel
theorem dX8_restore_0 : decode cX8_restore 0 = .ok (.aload_n 0, 1) := by decide +kernel
theorem dX8_restore_1 : decode cX8_restore 1 = .ok (.iload_n 1, 1) := by decide +kernel
theorem dX8_restore_2 : decode cX8_restore 2 = .ok (.invokevirtual 177, 3) := by decide +kernel
theorem dX8_restore_5 : decode cX8_restore 5 = .ok (.astore_n 2, 1) := by decide +kernel
theorem dX8_restore_6 : decode cX8_restore 6 = .ok (.aload_n 2, 1) := by decide +kernel
theorem dX8_restore_7 : decode cX8_restore 7 = .ok (.ifnonnull 5, 3) := by decide +kernel
theorem dX8_restore_10 : decode cX8_restore 10 = .ok (.iconst (-1), 1) := by decide +kernel
theorem dX8_restore_11 : decode cX8_restore 11 = .ok (.ireturn, 1) := by decide +kernel
theorem dX8_restore_12 : decode cX8_restore 12 = .ok (.aload_n 2, 1) := by decide +kernel
theorem dX8_restore_13 : decode cX8_restore 13 = .ok (.getfield 187, 3) := by decide +kernel
theorem dX8_restore_16 : decode cX8_restore 16 = .ok (.ifCond .ne 6, 3) := by decide +kernel
theorem dX8_restore_19 : decode cX8_restore 19 = .ok (.bipush (-5), 2) := by decide +kernel
theorem dX8_restore_21 : decode cX8_restore 21 = .ok (.ireturn, 1) := by decide +kernel
theorem dX8_restore_22 : decode cX8_restore 22 = .ok (.aload_n 0, 1) := by decide +kernel
theorem dX8_restore_23 : decode cX8_restore 23 = .ok (.getfield 19, 3) := by decide +kernel
theorem dX8_restore_26 : decode cX8_restore 26 = .ok (.aload_n 0, 1) := by decide +kernel
theorem dX8_restore_27 : decode cX8_restore 27 = .ok (.getfield 10, 3) := by decide +kernel
theorem dX8_restore_30 : decode cX8_restore 30 = .ok (.getfield 48, 3) := by decide +kernel
theorem dX8_restore_33 : decode cX8_restore 33 = .ok (.invokevirtual 51, 3) := by decide +kernel
theorem dX8_restore_36 : decode cX8_restore 36 = .ok (.aload_n 0, 1) := by decide +kernel
theorem dX8_restore_37 : decode cX8_restore 37 = .ok (.getfield 10, 3) := by decide +kernel
theorem dX8_restore_40 : decode cX8_restore 40 = .ok (.aload_n 2, 1) := by decide +kernel
theorem dX8_restore_41 : decode cX8_restore 41 = .ok (.getfield 181, 3) := by decide +kernel
theorem dX8_restore_44 : decode cX8_restore 44 = .ok (.invokevirtual 173, 3) := by decide +kernel
theorem dX8_restore_47 : decode cX8_restore 47 = .ok (.aload_n 0, 1) := by decide +kernel
theorem dX8_restore_48 : decode cX8_restore 48 = .ok (.getfield 10, 3) := by decide +kernel
theorem dX8_restore_51 : decode cX8_restore 51 = .ok (.getfield 48, 3) := by decide +kernel
theorem dX8_restore_54 : decode cX8_restore 54 = .ok (.invokevirtual 191, 3) := by decide +kernel
theorem dX8_restore_57 : decode cX8_restore 57 = .ok (.ireturn, 1) := by decide +kernel
theorem dX8_chips_0 : decode cX8_chips 0 = .ok (.aload_n 0, 1) := by decide +kernel
theorem dX8_chips_1 : decode cX8_chips 1 = .ok (.getfield 10, 3) := by decide +kernel
theorem dX8_chips_4 : decode cX8_chips 4 = .ok (.getfield 48, 3) := by decide +kernel
theorem dX8_chips_7 : decode cX8_chips 7 = .ok (.iload_n 1, 1) := by decide +kernel
theorem dX8_chips_8 : decode cX8_chips 8 = .ok (.iload_n 2, 1) := by decide +kernel
theorem dX8_chips_9 : decode cX8_chips 9 = .ok (.invokevirtual 59, 3) := by decide +kernel
theorem dX8_chips_12 : decode cX8_chips 12 = .ok (.istore_n 3, 1) := by decide +kernel
theorem dX8_chips_13 : decode cX8_chips 13 = .ok (.iload_n 3, 1) := by decide +kernel
theorem dX8_chips_14 : decode cX8_chips 14 = .ok (.ifCond .ge 5, 3) := by decide +kernel
theorem dX8_chips_17 : decode cX8_chips 17 = .ok (.iconst (-1), 1) := by decide +kernel
theorem dX8_chips_18 : decode cX8_chips 18 = .ok (.ireturn, 1) := by decide +kernel
theorem dX8_chips_19 : decode cX8_chips 19 = .ok (.aload_n 0, 1) := by decide +kernel
theorem dX8_chips_20 : decode cX8_chips 20 = .ok (.getfield 10, 3) := by decide +kernel
theorem dX8_chips_23 : decode cX8_chips 23 = .ok (.getfield 48, 3) := by decide +kernel
theorem dX8_chips_26 : decode cX8_chips 26 = .ok (.iload_n 3, 1) := by decide +kernel
theorem dX8_chips_27 : decode cX8_chips 27 = .ok (.invokevirtual 63, 3) := by decide +kernel
theorem dX8_chips_30 : decode cX8_chips 30 = .ok (.ireturn, 1) := by decide +kernel
theorem dX8_walker_0 : decode cX8_walker 0 = .ok (.aload_n 0, 1) := by decide +kernel
theorem dX8_walker_1 : decode cX8_walker 1 = .ok (.getfield 10, 3) := by decide +kernel
theorem dX8_walker_4 : decode cX8_walker 4 = .ok (.getfield 48, 3) := by decide +kernel
theorem dX8_walker_7 : decode cX8_walker 7 = .ok (.iload_n 1, 1) := by decide +kernel
theorem dX8_walker_8 : decode cX8_walker 8 = .ok (.invokevirtual 82, 3) := by decide +kernel
theorem dX8_walker_11 : decode cX8_walker 11 = .ok (.astore_n 3, 1) := by decide +kernel
theorem dX8_walker_12 : decode cX8_walker 12 = .ok (.aload_n 3, 1) := by decide +kernel
theorem dX8_walker_13 : decode cX8_walker 13 = .ok (.ifnonnull 5, 3) := by decide +kernel
theorem dX8_walker_16 : decode cX8_walker 16 = .ok (.iconst (-1), 1) := by decide +kernel
theorem dX8_walker_17 : decode cX8_walker 17 = .ok (.ireturn, 1) := by decide +kernel
theorem dX8_walker_18 : decode cX8_walker 18 = .ok (.iload_n 2, 1) := by decide +kernel
theorem dX8_walker_19 : decode cX8_walker 19 = .ok (.tableswitch 94 0 8 #[49, 54, 59, 64, 69, 74, 79, 84, 89], 49) := by decide +kernel
theorem dX8_walker_68 : decode cX8_walker 68 = .ok (.aload_n 3, 1) := by decide +kernel
theorem dX8_walker_69 : decode cX8_walker 69 = .ok (.getfield 194, 3) := by decide +kernel
theorem dX8_walker_72 : decode cX8_walker 72 = .ok (.ireturn, 1) := by decide +kernel
theorem dX8_walker_73 : decode cX8_walker 73 = .ok (.aload_n 3, 1) := by decide +kernel
theorem dX8_walker_74 : decode cX8_walker 74 = .ok (.getfield 197, 3) := by decide +kernel
theorem dX8_walker_77 : decode cX8_walker 77 = .ok (.ireturn, 1) := by decide +kernel
theorem dX8_walker_78 : decode cX8_walker 78 = .ok (.aload_n 3, 1) := by decide +kernel
theorem dX8_walker_79 : decode cX8_walker 79 = .ok (.getfield 200, 3) := by decide +kernel
theorem dX8_walker_82 : decode cX8_walker 82 = .ok (.ireturn, 1) := by decide +kernel
theorem dX8_walker_83 : decode cX8_walker 83 = .ok (.aload_n 3, 1) := by decide +kernel
theorem dX8_walker_84 : decode cX8_walker 84 = .ok (.getfield 99, 3) := by decide +kernel
theorem dX8_walker_87 : decode cX8_walker 87 = .ok (.ireturn, 1) := by decide +kernel
theorem dX8_walker_88 : decode cX8_walker 88 = .ok (.aload_n 3, 1) := by decide +kernel
theorem dX8_walker_89 : decode cX8_walker 89 = .ok (.getfield 203, 3) := by decide +kernel
theorem dX8_walker_92 : decode cX8_walker 92 = .ok (.ireturn, 1) := by decide +kernel
theorem dX8_walker_93 : decode cX8_walker 93 = .ok (.aload_n 3, 1) := by decide +kernel
theorem dX8_walker_94 : decode cX8_walker 94 = .ok (.getfield 92, 3) := by decide +kernel
theorem dX8_walker_97 : decode cX8_walker 97 = .ok (.ireturn, 1) := by decide +kernel
theorem dX8_walker_98 : decode cX8_walker 98 = .ok (.aload_n 3, 1) := by decide +kernel
theorem dX8_walker_99 : decode cX8_walker 99 = .ok (.getfield 206, 3) := by decide +kernel
theorem dX8_walker_102 : decode cX8_walker 102 = .ok (.ireturn, 1) := by decide +kernel
theorem dX8_walker_103 : decode cX8_walker 103 = .ok (.aload_n 3, 1) := by decide +kernel
theorem dX8_walker_104 : decode cX8_walker 104 = .ok (.getfield 209, 3) := by decide +kernel
theorem dX8_walker_107 : decode cX8_walker 107 = .ok (.ireturn, 1) := by decide +kernel
theorem dX8_walker_108 : decode cX8_walker 108 = .ok (.aload_n 3, 1) := by decide +kernel
theorem dX8_walker_109 : decode cX8_walker 109 = .ok (.getfield 212, 3) := by decide +kernel
theorem dX8_walker_112 : decode cX8_walker 112 = .ok (.ireturn, 1) := by decide +kernel
theorem dX8_walker_113 : decode cX8_walker 113 = .ok (.bipush (-2), 2) := by decide +kernel
theorem dX8_walker_115 : decode cX8_walker 115 = .ok (.ireturn, 1) := by decide +kernel
theorem dX8_heap_0 : decode cX8_heap 0 = .ok (.iload_n 1, 1) := by decide +kernel
theorem dX8_heap_1 : decode cX8_heap 1 = .ok (.ifCond .lt 12, 3) := by decide +kernel
theorem dX8_heap_4 : decode cX8_heap 4 = .ok (.iload_n 2, 1) := by decide +kernel
theorem dX8_heap_5 : decode cX8_heap 5 = .ok (.iconst 0, 1) := by decide +kernel
theorem dX8_heap_6 : decode cX8_heap 6 = .ok (.iconst 4, 1) := by decide +kernel
theorem dX8_heap_7 : decode cX8_heap 7 = .ok (.invokestatic 44, 3) := by decide +kernel
theorem dX8_heap_10 : decode cX8_heap 10 = .ok (.ifCond .ne 6, 3) := by decide +kernel
theorem dX8_heap_13 : decode cX8_heap 13 = .ok (.bipush (-2), 2) := by decide +kernel
theorem dX8_heap_15 : decode cX8_heap 15 = .ok (.ireturn, 1) := by decide +kernel
theorem dX8_heap_16 : decode cX8_heap 16 = .ok (.aload_n 0, 1) := by decide +kernel
theorem dX8_heap_17 : decode cX8_heap 17 = .ok (.getfield 10, 3) := by decide +kernel
theorem dX8_heap_20 : decode cX8_heap 20 = .ok (.getfield 128, 3) := by decide +kernel
theorem dX8_heap_23 : decode cX8_heap 23 = .ok (.astore_n 3, 1) := by decide +kernel
theorem dX8_heap_24 : decode cX8_heap 24 = .ok (.iload_n 1, 1) := by decide +kernel
theorem dX8_heap_25 : decode cX8_heap 25 = .ok (.aload_n 3, 1) := by decide +kernel
theorem dX8_heap_26 : decode cX8_heap 26 = .ok (.aload_n 0, 1) := by decide +kernel
theorem dX8_heap_27 : decode cX8_heap 27 = .ok (.getfield 10, 3) := by decide +kernel
theorem dX8_heap_30 : decode cX8_heap 30 = .ok (.getfield 48, 3) := by decide +kernel
theorem dX8_heap_33 : decode cX8_heap 33 = .ok (.getfield 132, 3) := by decide +kernel
theorem dX8_heap_36 : decode cX8_heap 36 = .ok (.invokevirtual 136, 3) := by decide +kernel
theorem dX8_heap_39 : decode cX8_heap 39 = .ok (.if_icmp .lt 6, 3) := by decide +kernel
theorem dX8_heap_42 : decode cX8_heap 42 = .ok (.bipush (-5), 2) := by decide +kernel
theorem dX8_heap_44 : decode cX8_heap 44 = .ok (.ireturn, 1) := by decide +kernel
theorem dX8_heap_45 : decode cX8_heap 45 = .ok (.aload_n 3, 1) := by decide +kernel
theorem dX8_heap_46 : decode cX8_heap 46 = .ok (.iload_n 1, 1) := by decide +kernel
theorem dX8_heap_47 : decode cX8_heap 47 = .ok (.invokevirtual 215, 3) := by decide +kernel
theorem dX8_heap_50 : decode cX8_heap 50 = .ok (.istore 4, 2) := by decide +kernel
theorem dX8_heap_52 : decode cX8_heap 52 = .ok (.iload 4, 2) := by decide +kernel
theorem dX8_heap_54 : decode cX8_heap 54 = .ok (.ifCond .lt 11, 3) := by decide +kernel
theorem dX8_heap_57 : decode cX8_heap 57 = .ok (.iload 4, 2) := by decide +kernel
theorem dX8_heap_59 : decode cX8_heap 59 = .ok (.sipush 128, 3) := by decide +kernel
theorem dX8_heap_62 : decode cX8_heap 62 = .ok (.if_icmp .lt 6, 3) := by decide +kernel
theorem dX8_heap_65 : decode cX8_heap 65 = .ok (.bipush (-5), 2) := by decide +kernel
theorem dX8_heap_67 : decode cX8_heap 67 = .ok (.ireturn, 1) := by decide +kernel
theorem dX8_heap_68 : decode cX8_heap 68 = .ok (.iload_n 2, 1) := by decide +kernel
theorem dX8_heap_69 : decode cX8_heap 69 = .ok (.tableswitch 69 0 3 #[31, 39, 47, 58], 31) := by decide +kernel
theorem dX8_heap_100 : decode cX8_heap 100 = .ok (.aload_n 3, 1) := by decide +kernel
theorem dX8_heap_101 : decode cX8_heap 101 = .ok (.getfield 218, 3) := by decide +kernel
theorem dX8_heap_104 : decode cX8_heap 104 = .ok (.iload 4, 2) := by decide +kernel
theorem dX8_heap_106 : decode cX8_heap 106 = .ok (.iaload, 1) := by decide +kernel
theorem dX8_heap_107 : decode cX8_heap 107 = .ok (.ireturn, 1) := by decide +kernel
theorem dX8_heap_108 : decode cX8_heap 108 = .ok (.aload_n 3, 1) := by decide +kernel
theorem dX8_heap_109 : decode cX8_heap 109 = .ok (.getfield 221, 3) := by decide +kernel
theorem dX8_heap_112 : decode cX8_heap 112 = .ok (.iload 4, 2) := by decide +kernel
theorem dX8_heap_114 : decode cX8_heap 114 = .ok (.iaload, 1) := by decide +kernel
theorem dX8_heap_115 : decode cX8_heap 115 = .ok (.ireturn, 1) := by decide +kernel
theorem dX8_heap_116 : decode cX8_heap 116 = .ok (.aload_n 3, 1) := by decide +kernel
theorem dX8_heap_117 : decode cX8_heap 117 = .ok (.getfield 224, 3) := by decide +kernel
theorem dX8_heap_120 : decode cX8_heap 120 = .ok (.iload 4, 2) := by decide +kernel
theorem dX8_heap_122 : decode cX8_heap 122 = .ok (.iaload, 1) := by decide +kernel
theorem dX8_heap_123 : decode cX8_heap 123 = .ok (.bipush 16, 2) := by decide +kernel
theorem dX8_heap_125 : decode cX8_heap 125 = .ok (.idiv, 1) := by decide +kernel
theorem dX8_heap_126 : decode cX8_heap 126 = .ok (.ireturn, 1) := by decide +kernel
theorem dX8_heap_127 : decode cX8_heap 127 = .ok (.aload_n 3, 1) := by decide +kernel
theorem dX8_heap_128 : decode cX8_heap 128 = .ok (.getfield 224, 3) := by decide +kernel
theorem dX8_heap_131 : decode cX8_heap 131 = .ok (.iload 4, 2) := by decide +kernel
theorem dX8_heap_133 : decode cX8_heap 133 = .ok (.iaload, 1) := by decide +kernel
theorem dX8_heap_134 : decode cX8_heap 134 = .ok (.bipush 16, 2) := by decide +kernel
theorem dX8_heap_136 : decode cX8_heap 136 = .ok (.irem, 1) := by decide +kernel
theorem dX8_heap_137 : decode cX8_heap 137 = .ok (.ireturn, 1) := by decide +kernel
theorem dX8_heap_138 : decode cX8_heap 138 = .ok (.aload_n 3, 1) := by decide +kernel
theorem dX8_heap_139 : decode cX8_heap 139 = .ok (.aload_n 0, 1) := by decide +kernel
theorem dX8_heap_140 : decode cX8_heap 140 = .ok (.getfield 10, 3) := by decide +kernel
theorem dX8_heap_143 : decode cX8_heap 143 = .ok (.getfield 48, 3) := by decide +kernel
theorem dX8_heap_146 : decode cX8_heap 146 = .ok (.getfield 132, 3) := by decide +kernel
theorem dX8_heap_149 : decode cX8_heap 149 = .ok (.iload 4, 2) := by decide +kernel
theorem dX8_heap_151 : decode cX8_heap 151 = .ok (.invokevirtual 227, 3) := by decide +kernel
theorem dX8_heap_154 : decode cX8_heap 154 = .ok (.ireturn, 1) := by decide +kernel
theorem dX8_heapOf_0 : decode cX8_heapOf 0 = .ok (.aload_n 0, 1) := by decide +kernel
theorem dX8_heapOf_1 : decode cX8_heapOf 1 = .ok (.getfield 10, 3) := by decide +kernel
theorem dX8_heapOf_4 : decode cX8_heapOf 4 = .ok (.getfield 48, 3) := by decide +kernel
theorem dX8_heapOf_7 : decode cX8_heapOf 7 = .ok (.iload_n 1, 1) := by decide +kernel
theorem dX8_heapOf_8 : decode cX8_heapOf 8 = .ok (.iload_n 2, 1) := by decide +kernel
theorem dX8_heapOf_9 : decode cX8_heapOf 9 = .ok (.invokevirtual 59, 3) := by decide +kernel
theorem dX8_heapOf_12 : decode cX8_heapOf 12 = .ok (.istore_n 3, 1) := by decide +kernel
theorem dX8_heapOf_13 : decode cX8_heapOf 13 = .ok (.iload_n 3, 1) := by decide +kernel
theorem dX8_heapOf_14 : decode cX8_heapOf 14 = .ok (.ifCond .ge 5, 3) := by decide +kernel
theorem dX8_heapOf_17 : decode cX8_heapOf 17 = .ok (.iconst (-1), 1) := by decide +kernel
theorem dX8_heapOf_18 : decode cX8_heapOf 18 = .ok (.ireturn, 1) := by decide +kernel
theorem dX8_heapOf_19 : decode cX8_heapOf 19 = .ok (.aload_n 0, 1) := by decide +kernel
theorem dX8_heapOf_20 : decode cX8_heapOf 20 = .ok (.getfield 10, 3) := by decide +kernel
theorem dX8_heapOf_23 : decode cX8_heapOf 23 = .ok (.getfield 48, 3) := by decide +kernel
theorem dX8_heapOf_26 : decode cX8_heapOf 26 = .ok (.iload_n 3, 1) := by decide +kernel
theorem dX8_heapOf_27 : decode cX8_heapOf 27 = .ok (.invokevirtual 63, 3) := by decide +kernel
theorem dX8_heapOf_30 : decode cX8_heapOf 30 = .ok (.ifCond .ne 6, 3) := by decide +kernel
theorem dX8_heapOf_33 : decode cX8_heapOf 33 = .ok (.bipush (-5), 2) := by decide +kernel
theorem dX8_heapOf_35 : decode cX8_heapOf 35 = .ok (.ireturn, 1) := by decide +kernel
theorem dX8_heapOf_36 : decode cX8_heapOf 36 = .ok (.aload_n 0, 1) := by decide +kernel
theorem dX8_heapOf_37 : decode cX8_heapOf 37 = .ok (.getfield 10, 3) := by decide +kernel
theorem dX8_heapOf_40 : decode cX8_heapOf 40 = .ok (.getfield 128, 3) := by decide +kernel
theorem dX8_heapOf_43 : decode cX8_heapOf 43 = .ok (.aload_n 0, 1) := by decide +kernel
theorem dX8_heapOf_44 : decode cX8_heapOf 44 = .ok (.getfield 10, 3) := by decide +kernel
theorem dX8_heapOf_47 : decode cX8_heapOf 47 = .ok (.getfield 48, 3) := by decide +kernel
theorem dX8_heapOf_50 : decode cX8_heapOf 50 = .ok (.getfield 132, 3) := by decide +kernel
theorem dX8_heapOf_53 : decode cX8_heapOf 53 = .ok (.invokevirtual 136, 3) := by decide +kernel
theorem dX8_heapOf_56 : decode cX8_heapOf 56 = .ok (.pop, 1) := by decide +kernel
theorem dX8_heapOf_57 : decode cX8_heapOf 57 = .ok (.aload_n 0, 1) := by decide +kernel
theorem dX8_heapOf_58 : decode cX8_heapOf 58 = .ok (.getfield 10, 3) := by decide +kernel
theorem dX8_heapOf_61 : decode cX8_heapOf 61 = .ok (.getfield 128, 3) := by decide +kernel
theorem dX8_heapOf_64 : decode cX8_heapOf 64 = .ok (.aload_n 0, 1) := by decide +kernel
theorem dX8_heapOf_65 : decode cX8_heapOf 65 = .ok (.getfield 10, 3) := by decide +kernel
theorem dX8_heapOf_68 : decode cX8_heapOf 68 = .ok (.getfield 128, 3) := by decide +kernel
theorem dX8_heapOf_71 : decode cX8_heapOf 71 = .ok (.iload_n 3, 1) := by decide +kernel
theorem dX8_heapOf_72 : decode cX8_heapOf 72 = .ok (.invokevirtual 231, 3) := by decide +kernel
theorem dX8_heapOf_75 : decode cX8_heapOf 75 = .ok (.invokevirtual 234, 3) := by decide +kernel
theorem dX8_heapOf_78 : decode cX8_heapOf 78 = .ok (.ireturn, 1) := by decide +kernel
theorem dX8_roundsUntil_0 : decode cX8_roundsUntil 0 = .ok (.iload_n 1, 1) := by decide +kernel
theorem dX8_roundsUntil_1 : decode cX8_roundsUntil 1 = .ok (.iconst 0, 1) := by decide +kernel
theorem dX8_roundsUntil_2 : decode cX8_roundsUntil 2 = .ok (.sipush 256, 3) := by decide +kernel
theorem dX8_roundsUntil_5 : decode cX8_roundsUntil 5 = .ok (.invokestatic 44, 3) := by decide +kernel
theorem dX8_roundsUntil_8 : decode cX8_roundsUntil 8 = .ok (.ifCond .ne 6, 3) := by decide +kernel
theorem dX8_roundsUntil_11 : decode cX8_roundsUntil 11 = .ok (.bipush (-2), 2) := by decide +kernel
theorem dX8_roundsUntil_13 : decode cX8_roundsUntil 13 = .ok (.ireturn, 1) := by decide +kernel
theorem dX8_roundsUntil_14 : decode cX8_roundsUntil 14 = .ok (.aload_n 0, 1) := by decide +kernel
theorem dX8_roundsUntil_15 : decode cX8_roundsUntil 15 = .ok (.getfield 10, 3) := by decide +kernel
theorem dX8_roundsUntil_18 : decode cX8_roundsUntil 18 = .ok (.getfield 128, 3) := by decide +kernel
theorem dX8_roundsUntil_21 : decode cX8_roundsUntil 21 = .ok (.aload_n 0, 1) := by decide +kernel
theorem dX8_roundsUntil_22 : decode cX8_roundsUntil 22 = .ok (.getfield 10, 3) := by decide +kernel
theorem dX8_roundsUntil_25 : decode cX8_roundsUntil 25 = .ok (.getfield 48, 3) := by decide +kernel
theorem dX8_roundsUntil_28 : decode cX8_roundsUntil 28 = .ok (.getfield 132, 3) := by decide +kernel
theorem dX8_roundsUntil_31 : decode cX8_roundsUntil 31 = .ok (.invokevirtual 136, 3) := by decide +kernel
theorem dX8_roundsUntil_34 : decode cX8_roundsUntil 34 = .ok (.iload_n 1, 1) := by decide +kernel
theorem dX8_roundsUntil_35 : decode cX8_roundsUntil 35 = .ok (.if_icmp .gt 5, 3) := by decide +kernel
theorem dX8_roundsUntil_38 : decode cX8_roundsUntil 38 = .ok (.iconst 0, 1) := by decide +kernel
theorem dX8_roundsUntil_39 : decode cX8_roundsUntil 39 = .ok (.ireturn, 1) := by decide +kernel
theorem dX8_roundsUntil_40 : decode cX8_roundsUntil 40 = .ok (.aload_n 0, 1) := by decide +kernel
theorem dX8_roundsUntil_41 : decode cX8_roundsUntil 41 = .ok (.getfield 10, 3) := by decide +kernel
theorem dX8_roundsUntil_44 : decode cX8_roundsUntil 44 = .ok (.getfield 48, 3) := by decide +kernel
theorem dX8_roundsUntil_47 : decode cX8_roundsUntil 47 = .ok (.getfield 78, 3) := by decide +kernel
theorem dX8_roundsUntil_50 : decode cX8_roundsUntil 50 = .ok (.ifCond .ne 6, 3) := by decide +kernel
theorem dX8_roundsUntil_53 : decode cX8_roundsUntil 53 = .ok (.bipush (-5), 2) := by decide +kernel
theorem dX8_roundsUntil_55 : decode cX8_roundsUntil 55 = .ok (.ireturn, 1) := by decide +kernel
theorem dX8_roundsUntil_56 : decode cX8_roundsUntil 56 = .ok (.aload_n 0, 1) := by decide +kernel
theorem dX8_roundsUntil_57 : decode cX8_roundsUntil 57 = .ok (.getfield 40, 3) := by decide +kernel
theorem dX8_roundsUntil_60 : decode cX8_roundsUntil 60 = .ok (.aload_n 0, 1) := by decide +kernel
theorem dX8_roundsUntil_61 : decode cX8_roundsUntil 61 = .ok (.getfield 10, 3) := by decide +kernel
theorem dX8_roundsUntil_64 : decode cX8_roundsUntil 64 = .ok (.getfield 48, 3) := by decide +kernel
theorem dX8_roundsUntil_67 : decode cX8_roundsUntil 67 = .ok (.invokevirtual 184, 3) := by decide +kernel
theorem dX8_roundsUntil_70 : decode cX8_roundsUntil 70 = .ok (.bipush (-5), 2) := by decide +kernel
theorem dX8_roundsUntil_72 : decode cX8_roundsUntil 72 = .ok (.istore_n 2, 1) := by decide +kernel
theorem dX8_roundsUntil_73 : decode cX8_roundsUntil 73 = .ok (.iconst 1, 1) := by decide +kernel
theorem dX8_roundsUntil_74 : decode cX8_roundsUntil 74 = .ok (.istore_n 3, 1) := by decide +kernel
theorem dX8_roundsUntil_75 : decode cX8_roundsUntil 75 = .ok (.iload_n 3, 1) := by decide +kernel
theorem dX8_roundsUntil_76 : decode cX8_roundsUntil 76 = .ok (.sipush 200, 3) := by decide +kernel
theorem dX8_roundsUntil_79 : decode cX8_roundsUntil 79 = .ok (.if_icmp .gt 49, 3) := by decide +kernel
theorem dX8_roundsUntil_82 : decode cX8_roundsUntil 82 = .ok (.iload_n 2, 1) := by decide +kernel
theorem dX8_roundsUntil_83 : decode cX8_roundsUntil 83 = .ok (.bipush (-5), 2) := by decide +kernel
theorem dX8_roundsUntil_85 : decode cX8_roundsUntil 85 = .ok (.if_icmp .ne 43, 3) := by decide +kernel
theorem dX8_roundsUntil_88 : decode cX8_roundsUntil 88 = .ok (.aload_n 0, 1) := by decide +kernel
theorem dX8_roundsUntil_89 : decode cX8_roundsUntil 89 = .ok (.getfield 10, 3) := by decide +kernel
theorem dX8_roundsUntil_92 : decode cX8_roundsUntil 92 = .ok (.iconst 1, 1) := by decide +kernel
theorem dX8_roundsUntil_93 : decode cX8_roundsUntil 93 = .ok (.invokevirtual 125, 3) := by decide +kernel
theorem dX8_roundsUntil_96 : decode cX8_roundsUntil 96 = .ok (.aload_n 0, 1) := by decide +kernel
theorem dX8_roundsUntil_97 : decode cX8_roundsUntil 97 = .ok (.getfield 10, 3) := by decide +kernel
theorem dX8_roundsUntil_100 : decode cX8_roundsUntil 100 = .ok (.getfield 128, 3) := by decide +kernel
theorem dX8_roundsUntil_103 : decode cX8_roundsUntil 103 = .ok (.aload_n 0, 1) := by decide +kernel
theorem dX8_roundsUntil_104 : decode cX8_roundsUntil 104 = .ok (.getfield 10, 3) := by decide +kernel
theorem dX8_roundsUntil_107 : decode cX8_roundsUntil 107 = .ok (.getfield 48, 3) := by decide +kernel
theorem dX8_roundsUntil_110 : decode cX8_roundsUntil 110 = .ok (.getfield 132, 3) := by decide +kernel
theorem dX8_roundsUntil_113 : decode cX8_roundsUntil 113 = .ok (.invokevirtual 136, 3) := by decide +kernel
theorem dX8_roundsUntil_116 : decode cX8_roundsUntil 116 = .ok (.iload_n 1, 1) := by decide +kernel
theorem dX8_roundsUntil_117 : decode cX8_roundsUntil 117 = .ok (.if_icmp .gt 5, 3) := by decide +kernel
theorem dX8_roundsUntil_120 : decode cX8_roundsUntil 120 = .ok (.iload_n 3, 1) := by decide +kernel
theorem dX8_roundsUntil_121 : decode cX8_roundsUntil 121 = .ok (.istore_n 2, 1) := by decide +kernel
theorem dX8_roundsUntil_122 : decode cX8_roundsUntil 122 = .ok (.iinc 3 1, 3) := by decide +kernel
theorem dX8_roundsUntil_125 : decode cX8_roundsUntil 125 = .ok (.goto (-50), 3) := by decide +kernel
theorem dX8_roundsUntil_128 : decode cX8_roundsUntil 128 = .ok (.aload_n 0, 1) := by decide +kernel
theorem dX8_roundsUntil_129 : decode cX8_roundsUntil 129 = .ok (.getfield 10, 3) := by decide +kernel
theorem dX8_roundsUntil_132 : decode cX8_roundsUntil 132 = .ok (.aload_n 0, 1) := by decide +kernel
theorem dX8_roundsUntil_133 : decode cX8_roundsUntil 133 = .ok (.getfield 40, 3) := by decide +kernel
theorem dX8_roundsUntil_136 : decode cX8_roundsUntil 136 = .ok (.invokevirtual 173, 3) := by decide +kernel
theorem dX8_roundsUntil_139 : decode cX8_roundsUntil 139 = .ok (.iload_n 2, 1) := by decide +kernel
theorem dX8_roundsUntil_140 : decode cX8_roundsUntil 140 = .ok (.ireturn, 1) := by decide +kernel
theorem dX8_turn_0 : decode cX8_turn 0 = .ok (.iload_n 1, 1) := by decide +kernel
theorem dX8_turn_1 : decode cX8_turn 1 = .ok (.ifCond .ge 6, 3) := by decide +kernel
theorem dX8_turn_4 : decode cX8_turn 4 = .ok (.bipush (-2), 2) := by decide +kernel
theorem dX8_turn_6 : decode cX8_turn 6 = .ok (.ireturn, 1) := by decide +kernel
theorem dX8_turn_7 : decode cX8_turn 7 = .ok (.aload_n 0, 1) := by decide +kernel
theorem dX8_turn_8 : decode cX8_turn 8 = .ok (.getfield 10, 3) := by decide +kernel
theorem dX8_turn_11 : decode cX8_turn 11 = .ok (.getfield 48, 3) := by decide +kernel
theorem dX8_turn_14 : decode cX8_turn 14 = .ok (.getfield 106, 3) := by decide +kernel
theorem dX8_turn_17 : decode cX8_turn 17 = .ok (.astore_n 2, 1) := by decide +kernel
theorem dX8_turn_18 : decode cX8_turn 18 = .ok (.iload_n 1, 1) := by decide +kernel
theorem dX8_turn_19 : decode cX8_turn 19 = .ok (.aload_n 2, 1) := by decide +kernel
theorem dX8_turn_20 : decode cX8_turn 20 = .ok (.getfield 110, 3) := by decide +kernel
theorem dX8_turn_23 : decode cX8_turn 23 = .ok (.if_icmp .ge 9, 3) := by decide +kernel
theorem dX8_turn_26 : decode cX8_turn 26 = .ok (.iload_n 1, 1) := by decide +kernel
theorem dX8_turn_27 : decode cX8_turn 27 = .ok (.bipush 30, 2) := by decide +kernel
theorem dX8_turn_29 : decode cX8_turn 29 = .ok (.if_icmp .lt 6, 3) := by decide +kernel
theorem dX8_turn_32 : decode cX8_turn 32 = .ok (.bipush (-5), 2) := by decide +kernel
theorem dX8_turn_34 : decode cX8_turn 34 = .ok (.ireturn, 1) := by decide +kernel
theorem dX8_turn_35 : decode cX8_turn 35 = .ok (.aload_n 2, 1) := by decide +kernel
theorem dX8_turn_36 : decode cX8_turn 36 = .ok (.getfield 237, 3) := by decide +kernel
theorem dX8_turn_39 : decode cX8_turn 39 = .ok (.iload_n 1, 1) := by decide +kernel
theorem dX8_turn_40 : decode cX8_turn 40 = .ok (.iaload, 1) := by decide +kernel
theorem dX8_turn_41 : decode cX8_turn 41 = .ok (.ireturn, 1) := by decide +kernel
theorem dX8_count_0 : decode cX8_count 0 = .ok (.aload_n 0, 1) := by decide +kernel
theorem dX8_count_1 : decode cX8_count 1 = .ok (.getfield 10, 3) := by decide +kernel
theorem dX8_count_4 : decode cX8_count 4 = .ok (.getfield 48, 3) := by decide +kernel
theorem dX8_count_7 : decode cX8_count 7 = .ok (.astore_n 2, 1) := by decide +kernel
theorem dX8_count_8 : decode cX8_count 8 = .ok (.iload_n 1, 1) := by decide +kernel
theorem dX8_count_9 : decode cX8_count 9 = .ok (.tableswitch 154 0 12 #[67, 72, 77, 82, 87, 92, 107, 112, 117, 122, 130, 138, 146], 67) := by decide +kernel
theorem dX8_count_76 : decode cX8_count 76 = .ok (.aload_n 2, 1) := by decide +kernel
theorem dX8_count_77 : decode cX8_count 77 = .ok (.getfield 240, 3) := by decide +kernel
theorem dX8_count_80 : decode cX8_count 80 = .ok (.ireturn, 1) := by decide +kernel
theorem dX8_count_81 : decode cX8_count 81 = .ok (.aload_n 2, 1) := by decide +kernel
theorem dX8_count_82 : decode cX8_count 82 = .ok (.getfield 243, 3) := by decide +kernel
theorem dX8_count_85 : decode cX8_count 85 = .ok (.ireturn, 1) := by decide +kernel
theorem dX8_count_86 : decode cX8_count 86 = .ok (.aload_n 2, 1) := by decide +kernel
theorem dX8_count_87 : decode cX8_count 87 = .ok (.getfield 78, 3) := by decide +kernel
theorem dX8_count_90 : decode cX8_count 90 = .ok (.ireturn, 1) := by decide +kernel
theorem dX8_count_91 : decode cX8_count 91 = .ok (.aload_n 2, 1) := by decide +kernel
theorem dX8_count_92 : decode cX8_count 92 = .ok (.invokevirtual 191, 3) := by decide +kernel
theorem dX8_count_95 : decode cX8_count 95 = .ok (.ireturn, 1) := by decide +kernel
theorem dX8_count_96 : decode cX8_count 96 = .ok (.aload_n 2, 1) := by decide +kernel
theorem dX8_count_97 : decode cX8_count 97 = .ok (.invokevirtual 246, 3) := by decide +kernel
theorem dX8_count_100 : decode cX8_count 100 = .ok (.ireturn, 1) := by decide +kernel
theorem dX8_count_101 : decode cX8_count 101 = .ok (.aload_n 0, 1) := by decide +kernel
theorem dX8_count_102 : decode cX8_count 102 = .ok (.getfield 10, 3) := by decide +kernel
theorem dX8_count_105 : decode cX8_count 105 = .ok (.getfield 128, 3) := by decide +kernel
theorem dX8_count_108 : decode cX8_count 108 = .ok (.aload_n 2, 1) := by decide +kernel
theorem dX8_count_109 : decode cX8_count 109 = .ok (.getfield 132, 3) := by decide +kernel
theorem dX8_count_112 : decode cX8_count 112 = .ok (.invokevirtual 136, 3) := by decide +kernel
theorem dX8_count_115 : decode cX8_count 115 = .ok (.ireturn, 1) := by decide +kernel
theorem dX8_count_116 : decode cX8_count 116 = .ok (.aload_n 2, 1) := by decide +kernel
theorem dX8_count_117 : decode cX8_count 117 = .ok (.getfield 249, 3) := by decide +kernel
theorem dX8_count_120 : decode cX8_count 120 = .ok (.ireturn, 1) := by decide +kernel
theorem dX8_count_121 : decode cX8_count 121 = .ok (.aload_n 2, 1) := by decide +kernel
theorem dX8_count_122 : decode cX8_count 122 = .ok (.getfield 252, 3) := by decide +kernel
theorem dX8_count_125 : decode cX8_count 125 = .ok (.ireturn, 1) := by decide +kernel
theorem dX8_count_126 : decode cX8_count 126 = .ok (.aload_n 2, 1) := by decide +kernel
theorem dX8_count_127 : decode cX8_count 127 = .ok (.invokevirtual 151, 3) := by decide +kernel
theorem dX8_count_130 : decode cX8_count 130 = .ok (.ireturn, 1) := by decide +kernel
theorem dX8_count_131 : decode cX8_count 131 = .ok (.aload_n 2, 1) := by decide +kernel
theorem dX8_count_132 : decode cX8_count 132 = .ok (.getfield 106, 3) := by decide +kernel
theorem dX8_count_135 : decode cX8_count 135 = .ok (.getfield 255, 3) := by decide +kernel
theorem dX8_count_138 : decode cX8_count 138 = .ok (.ireturn, 1) := by decide +kernel
theorem dX8_count_139 : decode cX8_count 139 = .ok (.aload_n 2, 1) := by decide +kernel
theorem dX8_count_140 : decode cX8_count 140 = .ok (.getfield 106, 3) := by decide +kernel
theorem dX8_count_143 : decode cX8_count 143 = .ok (.getfield 110, 3) := by decide +kernel
theorem dX8_count_146 : decode cX8_count 146 = .ok (.ireturn, 1) := by decide +kernel
theorem dX8_count_147 : decode cX8_count 147 = .ok (.aload_n 0, 1) := by decide +kernel
theorem dX8_count_148 : decode cX8_count 148 = .ok (.getfield 19, 3) := by decide +kernel
theorem dX8_count_151 : decode cX8_count 151 = .ok (.getfield 176, 3) := by decide +kernel
theorem dX8_count_154 : decode cX8_count 154 = .ok (.ireturn, 1) := by decide +kernel
theorem dX8_count_155 : decode cX8_count 155 = .ok (.aload_n 0, 1) := by decide +kernel
theorem dX8_count_156 : decode cX8_count 156 = .ok (.getfield 26, 3) := by decide +kernel
theorem dX8_count_159 : decode cX8_count 159 = .ok (.getfield 145, 3) := by decide +kernel
theorem dX8_count_162 : decode cX8_count 162 = .ok (.ireturn, 1) := by decide +kernel
theorem dX8_count_163 : decode cX8_count 163 = .ok (.bipush (-2), 2) := by decide +kernel
theorem dX8_count_165 : decode cX8_count 165 = .ok (.ireturn, 1) := by decide +kernel
theorem dX8_isBetween_0 : decode cX8_isBetween 0 = .ok (.iload_n 0, 1) := by decide +kernel
theorem dX8_isBetween_1 : decode cX8_isBetween 1 = .ok (.iload_n 1, 1) := by decide +kernel
theorem dX8_isBetween_2 : decode cX8_isBetween 2 = .ok (.if_icmp .lt 12, 3) := by decide +kernel
theorem dX8_isBetween_5 : decode cX8_isBetween 5 = .ok (.iload_n 0, 1) := by decide +kernel
theorem dX8_isBetween_6 : decode cX8_isBetween 6 = .ok (.iload_n 2, 1) := by decide +kernel
theorem dX8_isBetween_7 : decode cX8_isBetween 7 = .ok (.if_icmp .gt 7, 3) := by decide +kernel
theorem dX8_isBetween_10 : decode cX8_isBetween 10 = .ok (.iconst 1, 1) := by decide +kernel
theorem dX8_isBetween_11 : decode cX8_isBetween 11 = .ok (.goto 4, 3) := by decide +kernel
theorem dX8_isBetween_14 : decode cX8_isBetween 14 = .ok (.iconst 0, 1) := by decide +kernel
theorem dX8_isBetween_15 : decode cX8_isBetween 15 = .ok (.ireturn, 1) := by decide +kernel
theorem dX8_isSort_0 : decode cX8_isSort 0 = .ok (.iload_n 0, 1) := by decide +kernel
theorem dX8_isSort_1 : decode cX8_isSort 1 = .ok (.iconst 0, 1) := by decide +kernel
theorem dX8_isSort_2 : decode cX8_isSort 2 = .ok (.iconst 2, 1) := by decide +kernel
theorem dX8_isSort_3 : decode cX8_isSort 3 = .ok (.invokestatic 44, 3) := by decide +kernel
theorem dX8_isSort_6 : decode cX8_isSort 6 = .ok (.ireturn, 1) := by decide +kernel
theorem dX8_slotAt_0 : decode cX8_slotAt 0 = .ok (.iload_n 1, 1) := by decide +kernel
theorem dX8_slotAt_1 : decode cX8_slotAt 1 = .ok (.ifCond .lt 12, 3) := by decide +kernel
theorem dX8_slotAt_4 : decode cX8_slotAt 4 = .ok (.iload_n 1, 1) := by decide +kernel
theorem dX8_slotAt_5 : decode cX8_slotAt 5 = .ok (.aload_n 0, 1) := by decide +kernel
theorem dX8_slotAt_6 : decode cX8_slotAt 6 = .ok (.getfield 32, 3) := by decide +kernel
theorem dX8_slotAt_9 : decode cX8_slotAt 9 = .ok (.arraylength, 1) := by decide +kernel
theorem dX8_slotAt_10 : decode cX8_slotAt 10 = .ok (.if_icmp .lt 5, 3) := by decide +kernel
theorem dX8_slotAt_13 : decode cX8_slotAt 13 = .ok (.aconst_null, 1) := by decide +kernel
theorem dX8_slotAt_14 : decode cX8_slotAt 14 = .ok (.areturn, 1) := by decide +kernel
theorem dX8_slotAt_15 : decode cX8_slotAt 15 = .ok (.aload_n 0, 1) := by decide +kernel
theorem dX8_slotAt_16 : decode cX8_slotAt 16 = .ok (.getfield 32, 3) := by decide +kernel
theorem dX8_slotAt_19 : decode cX8_slotAt 19 = .ok (.iload_n 1, 1) := by decide +kernel
theorem dX8_slotAt_20 : decode cX8_slotAt 20 = .ok (.aaload, 1) := by decide +kernel
theorem dX8_slotAt_21 : decode cX8_slotAt 21 = .ok (.areturn, 1) := by decide +kernel
theorem dX9_init_0 : decode cX9_init 0 = .ok (.aload_n 0, 1) := by decide +kernel
theorem dX9_init_1 : decode cX9_init 1 = .ok (.invokespecial 1, 3) := by decide +kernel
theorem dX9_init_4 : decode cX9_init 4 = .ok (.aload_n 0, 1) := by decide +kernel
theorem dX9_init_5 : decode cX9_init 5 = .ok (.sipush 367, 3) := by decide +kernel
theorem dX9_init_8 : decode cX9_init 8 = .ok (.newarray .int, 2) := by decide +kernel
theorem dX9_init_10 : decode cX9_init 10 = .ok (.putfield 7, 3) := by decide +kernel
theorem dX9_init_13 : decode cX9_init 13 = .ok (.aload_n 0, 1) := by decide +kernel
theorem dX9_init_14 : decode cX9_init 14 = .ok (.sipush 367, 3) := by decide +kernel
theorem dX9_init_17 : decode cX9_init 17 = .ok (.newarray .int, 2) := by decide +kernel
theorem dX9_init_19 : decode cX9_init 19 = .ok (.putfield 13, 3) := by decide +kernel
theorem dX9_init_22 : decode cX9_init 22 = .ok (.aload_n 0, 1) := by decide +kernel
theorem dX9_init_23 : decode cX9_init 23 = .ok (.sipush 1835, 3) := by decide +kernel
theorem dX9_init_26 : decode cX9_init 26 = .ok (.newarray .int, 2) := by decide +kernel
theorem dX9_init_28 : decode cX9_init 28 = .ok (.putfield 16, 3) := by decide +kernel
theorem dX9_init_31 : decode cX9_init 31 = .ok (.aload_n 0, 1) := by decide +kernel
theorem dX9_init_32 : decode cX9_init 32 = .ok (.sipush 734, 3) := by decide +kernel
theorem dX9_init_35 : decode cX9_init 35 = .ok (.newarray .int, 2) := by decide +kernel
theorem dX9_init_37 : decode cX9_init 37 = .ok (.putfield 19, 3) := by decide +kernel
theorem dX9_init_40 : decode cX9_init 40 = .ok (.aload_n 0, 1) := by decide +kernel
theorem dX9_init_41 : decode cX9_init 41 = .ok (.iconst 2, 1) := by decide +kernel
theorem dX9_init_42 : decode cX9_init 42 = .ok (.newarray .boolean, 2) := by decide +kernel
theorem dX9_init_44 : decode cX9_init 44 = .ok (.putfield 22, 3) := by decide +kernel
theorem dX9_init_47 : decode cX9_init 47 = .ok (.aload_n 0, 1) := by decide +kernel
theorem dX9_init_48 : decode cX9_init 48 = .ok (.sipush 256, 3) := by decide +kernel
theorem dX9_init_51 : decode cX9_init 51 = .ok (.newarray .int, 2) := by decide +kernel
theorem dX9_init_53 : decode cX9_init 53 = .ok (.putfield 26, 3) := by decide +kernel
theorem dX9_init_56 : decode cX9_init 56 = .ok (.aload_n 0, 1) := by decide +kernel
theorem dX9_init_57 : decode cX9_init 57 = .ok (.sipush 128, 3) := by decide +kernel
theorem dX9_init_60 : decode cX9_init 60 = .ok (.newarray .int, 2) := by decide +kernel
theorem dX9_init_62 : decode cX9_init 62 = .ok (.putfield 29, 3) := by decide +kernel
theorem dX9_init_65 : decode cX9_init 65 = .ok (.aload_n 0, 1) := by decide +kernel
theorem dX9_init_66 : decode cX9_init 66 = .ok (.sipush 128, 3) := by decide +kernel
theorem dX9_init_69 : decode cX9_init 69 = .ok (.newarray .int, 2) := by decide +kernel
theorem dX9_init_71 : decode cX9_init 71 = .ok (.putfield 32, 3) := by decide +kernel
theorem dX9_init_74 : decode cX9_init 74 = .ok (.aload_n 0, 1) := by decide +kernel
theorem dX9_init_75 : decode cX9_init 75 = .ok (.sipush 128, 3) := by decide +kernel
theorem dX9_init_78 : decode cX9_init 78 = .ok (.newarray .int, 2) := by decide +kernel
theorem dX9_init_80 : decode cX9_init 80 = .ok (.putfield 35, 3) := by decide +kernel
theorem dX9_init_83 : decode cX9_init 83 = .ok (.aload_n 0, 1) := by decide +kernel
theorem dX9_init_84 : decode cX9_init 84 = .ok (.sipush 128, 3) := by decide +kernel
theorem dX9_init_87 : decode cX9_init 87 = .ok (.newarray .int, 2) := by decide +kernel
theorem dX9_init_89 : decode cX9_init 89 = .ok (.putfield 38, 3) := by decide +kernel
theorem dX9_init_92 : decode cX9_init 92 = .ok (.aload_n 0, 1) := by decide +kernel
theorem dX9_init_93 : decode cX9_init 93 = .ok (.sipush 256, 3) := by decide +kernel
theorem dX9_init_96 : decode cX9_init 96 = .ok (.newarray .int, 2) := by decide +kernel
theorem dX9_init_98 : decode cX9_init 98 = .ok (.putfield 41, 3) := by decide +kernel
theorem dX9_init_101 : decode cX9_init 101 = .ok (.aload_n 0, 1) := by decide +kernel
theorem dX9_init_102 : decode cX9_init 102 = .ok (.bipush 40, 2) := by decide +kernel
theorem dX9_init_104 : decode cX9_init 104 = .ok (.newarray .char, 2) := by decide +kernel
theorem dX9_init_106 : decode cX9_init 106 = .ok (.putfield 44, 3) := by decide +kernel
theorem dX9_init_109 : decode cX9_init 109 = .ok (.aload_n 0, 1) := by decide +kernel
theorem dX9_init_110 : decode cX9_init 110 = .ok (.bipush 40, 2) := by decide +kernel
theorem dX9_init_112 : decode cX9_init 112 = .ok (.newarray .char, 2) := by decide +kernel
theorem dX9_init_114 : decode cX9_init 114 = .ok (.putfield 48, 3) := by decide +kernel
theorem dX9_init_117 : decode cX9_init 117 = .ok (.aload_n 0, 1) := by decide +kernel
theorem dX9_init_118 : decode cX9_init 118 = .ok (.bipush 40, 2) := by decide +kernel
theorem dX9_init_120 : decode cX9_init 120 = .ok (.newarray .int, 2) := by decide +kernel
theorem dX9_init_122 : decode cX9_init 122 = .ok (.putfield 51, 3) := by decide +kernel
theorem dX9_init_125 : decode cX9_init 125 = .ok (.aload_n 0, 1) := by decide +kernel
theorem dX9_init_126 : decode cX9_init 126 = .ok (.getfield 7, 3) := by decide +kernel
theorem dX9_init_129 : decode cX9_init 129 = .ok (.iconst 0, 1) := by decide +kernel
theorem dX9_init_130 : decode cX9_init 130 = .ok (.bipush 8, 2) := by decide +kernel
theorem dX9_init_132 : decode cX9_init 132 = .ok (.iastore, 1) := by decide +kernel
theorem dX9_init_133 : decode cX9_init 133 = .ok (.aload_n 0, 1) := by decide +kernel
theorem dX9_init_134 : decode cX9_init 134 = .ok (.getfield 7, 3) := by decide +kernel
theorem dX9_init_137 : decode cX9_init 137 = .ok (.iconst 1, 1) := by decide +kernel
theorem dX9_init_138 : decode cX9_init 138 = .ok (.bipush 8, 2) := by decide +kernel
theorem dX9_init_140 : decode cX9_init 140 = .ok (.iastore, 1) := by decide +kernel
theorem dX9_init_141 : decode cX9_init 141 = .ok (.aload_n 0, 1) := by decide +kernel
theorem dX9_init_142 : decode cX9_init 142 = .ok (.getfield 7, 3) := by decide +kernel
theorem dX9_init_145 : decode cX9_init 145 = .ok (.iconst 3, 1) := by decide +kernel
theorem dX9_init_146 : decode cX9_init 146 = .ok (.iconst 1, 1) := by decide +kernel
theorem dX9_init_147 : decode cX9_init 147 = .ok (.iastore, 1) := by decide +kernel
theorem dX9_init_148 : decode cX9_init 148 = .ok (.aload_n 0, 1) := by decide +kernel
theorem dX9_init_149 : decode cX9_init 149 = .ok (.getfield 7, 3) := by decide +kernel
theorem dX9_init_152 : decode cX9_init 152 = .ok (.iconst 5, 1) := by decide +kernel
theorem dX9_init_153 : decode cX9_init 153 = .ok (.iconst 1, 1) := by decide +kernel
theorem dX9_init_154 : decode cX9_init 154 = .ok (.iastore, 1) := by decide +kernel
theorem dX9_init_155 : decode cX9_init 155 = .ok (.return_, 1) := by decide +kernel
theorem dX9_in_0 : decode cX9_in 0 = .ok (.iload_n 0, 1) := by decide +kernel
theorem dX9_in_1 : decode cX9_in 1 = .ok (.iload_n 1, 1) := by decide +kernel
theorem dX9_in_2 : decode cX9_in 2 = .ok (.if_icmp .lt 12, 3) := by decide +kernel
theorem dX9_in_5 : decode cX9_in 5 = .ok (.iload_n 0, 1) := by decide +kernel
theorem dX9_in_6 : decode cX9_in 6 = .ok (.iload_n 2, 1) := by decide +kernel
theorem dX9_in_7 : decode cX9_in 7 = .ok (.if_icmp .gt 7, 3) := by decide +kernel
theorem dX9_in_10 : decode cX9_in 10 = .ok (.iconst 1, 1) := by decide +kernel
theorem dX9_in_11 : decode cX9_in 11 = .ok (.goto 4, 3) := by decide +kernel
theorem dX9_in_14 : decode cX9_in 14 = .ok (.iconst 0, 1) := by decide +kernel
theorem dX9_in_15 : decode cX9_in 15 = .ok (.ireturn, 1) := by decide +kernel
theorem dX9_lesser_0 : decode cX9_lesser 0 = .ok (.iload_n 0, 1) := by decide +kernel
theorem dX9_lesser_1 : decode cX9_lesser 1 = .ok (.iload_n 1, 1) := by decide +kernel
theorem dX9_lesser_2 : decode cX9_lesser 2 = .ok (.if_icmp .ge 7, 3) := by decide +kernel
theorem dX9_lesser_5 : decode cX9_lesser 5 = .ok (.iload_n 0, 1) := by decide +kernel
theorem dX9_lesser_6 : decode cX9_lesser 6 = .ok (.goto 4, 3) := by decide +kernel
theorem dX9_lesser_9 : decode cX9_lesser 9 = .ok (.iload_n 1, 1) := by decide +kernel
theorem dX9_lesser_10 : decode cX9_lesser 10 = .ok (.ireturn, 1) := by decide +kernel
theorem dX9_begin_0 : decode cX9_begin 0 = .ok (.iconst 0, 1) := by decide +kernel
theorem dX9_begin_1 : decode cX9_begin 1 = .ok (.istore_n 1, 1) := by decide +kernel
theorem dX9_begin_2 : decode cX9_begin 2 = .ok (.iload_n 1, 1) := by decide +kernel
theorem dX9_begin_3 : decode cX9_begin 3 = .ok (.sipush 367, 3) := by decide +kernel
theorem dX9_begin_6 : decode cX9_begin 6 = .ok (.if_icmp .ge 21, 3) := by decide +kernel
theorem dX9_begin_9 : decode cX9_begin 9 = .ok (.aload_n 0, 1) := by decide +kernel
theorem dX9_begin_10 : decode cX9_begin 10 = .ok (.getfield 13, 3) := by decide +kernel
theorem dX9_begin_13 : decode cX9_begin 13 = .ok (.iload_n 1, 1) := by decide +kernel
theorem dX9_begin_14 : decode cX9_begin 14 = .ok (.aload_n 0, 1) := by decide +kernel
theorem dX9_begin_15 : decode cX9_begin 15 = .ok (.getfield 7, 3) := by decide +kernel
theorem dX9_begin_18 : decode cX9_begin 18 = .ok (.iload_n 1, 1) := by decide +kernel
theorem dX9_begin_19 : decode cX9_begin 19 = .ok (.iaload, 1) := by decide +kernel
theorem dX9_begin_20 : decode cX9_begin 20 = .ok (.iastore, 1) := by decide +kernel
theorem dX9_begin_21 : decode cX9_begin 21 = .ok (.iinc 1 1, 3) := by decide +kernel
theorem dX9_begin_24 : decode cX9_begin 24 = .ok (.goto (-22), 3) := by decide +kernel
theorem dX9_begin_27 : decode cX9_begin 27 = .ok (.return_, 1) := by decide +kernel
theorem dX9_goBack_0 : decode cX9_goBack 0 = .ok (.iconst 0, 1) := by decide +kernel
theorem dX9_goBack_1 : decode cX9_goBack 1 = .ok (.istore_n 1, 1) := by decide +kernel
theorem dX9_goBack_2 : decode cX9_goBack 2 = .ok (.iload_n 1, 1) := by decide +kernel
theorem dX9_goBack_3 : decode cX9_goBack 3 = .ok (.sipush 367, 3) := by decide +kernel
theorem dX9_goBack_6 : decode cX9_goBack 6 = .ok (.if_icmp .ge 21, 3) := by decide +kernel
theorem dX9_goBack_9 : decode cX9_goBack 9 = .ok (.aload_n 0, 1) := by decide +kernel
theorem dX9_goBack_10 : decode cX9_goBack 10 = .ok (.getfield 7, 3) := by decide +kernel
theorem dX9_goBack_13 : decode cX9_goBack 13 = .ok (.iload_n 1, 1) := by decide +kernel
theorem dX9_goBack_14 : decode cX9_goBack 14 = .ok (.aload_n 0, 1) := by decide +kernel
theorem dX9_goBack_15 : decode cX9_goBack 15 = .ok (.getfield 13, 3) := by decide +kernel
theorem dX9_goBack_18 : decode cX9_goBack 18 = .ok (.iload_n 1, 1) := by decide +kernel
theorem dX9_goBack_19 : decode cX9_goBack 19 = .ok (.iaload, 1) := by decide +kernel
theorem dX9_goBack_20 : decode cX9_goBack 20 = .ok (.iastore, 1) := by decide +kernel
theorem dX9_goBack_21 : decode cX9_goBack 21 = .ok (.iinc 1 1, 3) := by decide +kernel
theorem dX9_goBack_24 : decode cX9_goBack 24 = .ok (.goto (-22), 3) := by decide +kernel
theorem dX9_goBack_27 : decode cX9_goBack 27 = .ok (.return_, 1) := by decide +kernel
theorem dX9_done_0 : decode cX9_done 0 = .ok (.aload_n 0, 1) := by decide +kernel
theorem dX9_done_1 : decode cX9_done 1 = .ok (.getfield 54, 3) := by decide +kernel
theorem dX9_done_4 : decode cX9_done 4 = .ok (.iconst 5, 1) := by decide +kernel
theorem dX9_done_5 : decode cX9_done 5 = .ok (.if_icmp .ne 49, 3) := by decide +kernel
theorem dX9_done_8 : decode cX9_done 8 = .ok (.aload_n 0, 1) := by decide +kernel
theorem dX9_done_9 : decode cX9_done 9 = .ok (.dup, 1) := by decide +kernel
theorem dX9_done_10 : decode cX9_done 10 = .ok (.getfield 54, 3) := by decide +kernel
theorem dX9_done_13 : decode cX9_done 13 = .ok (.iconst 1, 1) := by decide +kernel
theorem dX9_done_14 : decode cX9_done 14 = .ok (.isub, 1) := by decide +kernel
theorem dX9_done_15 : decode cX9_done 15 = .ok (.putfield 54, 3) := by decide +kernel
theorem dX9_done_18 : decode cX9_done 18 = .ok (.iconst 0, 1) := by decide +kernel
theorem dX9_done_19 : decode cX9_done 19 = .ok (.istore_n 2, 1) := by decide +kernel
theorem dX9_done_20 : decode cX9_done 20 = .ok (.iload_n 2, 1) := by decide +kernel
theorem dX9_done_21 : decode cX9_done 21 = .ok (.sipush 367, 3) := by decide +kernel
theorem dX9_done_24 : decode cX9_done 24 = .ok (.aload_n 0, 1) := by decide +kernel
theorem dX9_done_25 : decode cX9_done 25 = .ok (.getfield 54, 3) := by decide +kernel
theorem dX9_done_28 : decode cX9_done 28 = .ok (.imul, 1) := by decide +kernel
theorem dX9_done_29 : decode cX9_done 29 = .ok (.if_icmp .ge 25, 3) := by decide +kernel
theorem dX9_done_32 : decode cX9_done 32 = .ok (.aload_n 0, 1) := by decide +kernel
theorem dX9_done_33 : decode cX9_done 33 = .ok (.getfield 16, 3) := by decide +kernel
theorem dX9_done_36 : decode cX9_done 36 = .ok (.iload_n 2, 1) := by decide +kernel
theorem dX9_done_37 : decode cX9_done 37 = .ok (.aload_n 0, 1) := by decide +kernel
theorem dX9_done_38 : decode cX9_done 38 = .ok (.getfield 16, 3) := by decide +kernel
theorem dX9_done_41 : decode cX9_done 41 = .ok (.iload_n 2, 1) := by decide +kernel
theorem dX9_done_42 : decode cX9_done 42 = .ok (.sipush 367, 3) := by decide +kernel
theorem dX9_done_45 : decode cX9_done 45 = .ok (.iadd, 1) := by decide +kernel
theorem dX9_done_46 : decode cX9_done 46 = .ok (.iaload, 1) := by decide +kernel
theorem dX9_done_47 : decode cX9_done 47 = .ok (.iastore, 1) := by decide +kernel
theorem dX9_done_48 : decode cX9_done 48 = .ok (.iinc 2 1, 3) := by decide +kernel
theorem dX9_done_51 : decode cX9_done 51 = .ok (.goto (-31), 3) := by decide +kernel
theorem dX9_done_54 : decode cX9_done 54 = .ok (.iconst 0, 1) := by decide +kernel
theorem dX9_done_55 : decode cX9_done 55 = .ok (.istore_n 2, 1) := by decide +kernel
theorem dX9_done_56 : decode cX9_done 56 = .ok (.iload_n 2, 1) := by decide +kernel
theorem dX9_done_57 : decode cX9_done 57 = .ok (.sipush 367, 3) := by decide +kernel
theorem dX9_done_60 : decode cX9_done 60 = .ok (.if_icmp .ge 30, 3) := by decide +kernel
theorem dX9_done_63 : decode cX9_done 63 = .ok (.aload_n 0, 1) := by decide +kernel
theorem dX9_done_64 : decode cX9_done 64 = .ok (.getfield 16, 3) := by decide +kernel
theorem dX9_done_67 : decode cX9_done 67 = .ok (.sipush 367, 3) := by decide +kernel
theorem dX9_done_70 : decode cX9_done 70 = .ok (.aload_n 0, 1) := by decide +kernel
theorem dX9_done_71 : decode cX9_done 71 = .ok (.getfield 54, 3) := by decide +kernel
theorem dX9_done_74 : decode cX9_done 74 = .ok (.imul, 1) := by decide +kernel
theorem dX9_done_75 : decode cX9_done 75 = .ok (.iload_n 2, 1) := by decide +kernel
theorem dX9_done_76 : decode cX9_done 76 = .ok (.iadd, 1) := by decide +kernel
theorem dX9_done_77 : decode cX9_done 77 = .ok (.aload_n 0, 1) := by decide +kernel
theorem dX9_done_78 : decode cX9_done 78 = .ok (.getfield 13, 3) := by decide +kernel
theorem dX9_done_81 : decode cX9_done 81 = .ok (.iload_n 2, 1) := by decide +kernel
theorem dX9_done_82 : decode cX9_done 82 = .ok (.iaload, 1) := by decide +kernel
theorem dX9_done_83 : decode cX9_done 83 = .ok (.iastore, 1) := by decide +kernel
theorem dX9_done_84 : decode cX9_done 84 = .ok (.iinc 2 1, 3) := by decide +kernel
theorem dX9_done_87 : decode cX9_done 87 = .ok (.goto (-31), 3) := by decide +kernel
theorem dX9_done_90 : decode cX9_done 90 = .ok (.aload_n 0, 1) := by decide +kernel
theorem dX9_done_91 : decode cX9_done 91 = .ok (.dup, 1) := by decide +kernel
theorem dX9_done_92 : decode cX9_done 92 = .ok (.getfield 54, 3) := by decide +kernel
theorem dX9_done_95 : decode cX9_done 95 = .ok (.iconst 1, 1) := by decide +kernel
theorem dX9_done_96 : decode cX9_done 96 = .ok (.iadd, 1) := by decide +kernel
theorem dX9_done_97 : decode cX9_done 97 = .ok (.putfield 54, 3) := by decide +kernel
theorem dX9_done_100 : decode cX9_done 100 = .ok (.iload_n 1, 1) := by decide +kernel
theorem dX9_done_101 : decode cX9_done 101 = .ok (.ireturn, 1) := by decide +kernel
theorem dX9_undo_0 : decode cX9_undo 0 = .ok (.aload_n 0, 1) := by decide +kernel
theorem dX9_undo_1 : decode cX9_undo 1 = .ok (.getfield 54, 3) := by decide +kernel
theorem dX9_undo_4 : decode cX9_undo 4 = .ok (.ifCond .ne 6, 3) := by decide +kernel
theorem dX9_undo_7 : decode cX9_undo 7 = .ok (.bipush (-5), 2) := by decide +kernel
theorem dX9_undo_9 : decode cX9_undo 9 = .ok (.ireturn, 1) := by decide +kernel
theorem dX9_undo_10 : decode cX9_undo 10 = .ok (.aload_n 0, 1) := by decide +kernel
theorem dX9_undo_11 : decode cX9_undo 11 = .ok (.dup, 1) := by decide +kernel
theorem dX9_undo_12 : decode cX9_undo 12 = .ok (.getfield 54, 3) := by decide +kernel
theorem dX9_undo_15 : decode cX9_undo 15 = .ok (.iconst 1, 1) := by decide +kernel
theorem dX9_undo_16 : decode cX9_undo 16 = .ok (.isub, 1) := by decide +kernel
theorem dX9_undo_17 : decode cX9_undo 17 = .ok (.putfield 54, 3) := by decide +kernel
theorem dX9_undo_20 : decode cX9_undo 20 = .ok (.iconst 0, 1) := by decide +kernel
theorem dX9_undo_21 : decode cX9_undo 21 = .ok (.istore_n 1, 1) := by decide +kernel
theorem dX9_undo_22 : decode cX9_undo 22 = .ok (.iload_n 1, 1) := by decide +kernel
theorem dX9_undo_23 : decode cX9_undo 23 = .ok (.sipush 367, 3) := by decide +kernel
theorem dX9_undo_26 : decode cX9_undo 26 = .ok (.if_icmp .ge 30, 3) := by decide +kernel
theorem dX9_undo_29 : decode cX9_undo 29 = .ok (.aload_n 0, 1) := by decide +kernel
theorem dX9_undo_30 : decode cX9_undo 30 = .ok (.getfield 7, 3) := by decide +kernel
theorem dX9_undo_33 : decode cX9_undo 33 = .ok (.iload_n 1, 1) := by decide +kernel
theorem dX9_undo_34 : decode cX9_undo 34 = .ok (.aload_n 0, 1) := by decide +kernel
theorem dX9_undo_35 : decode cX9_undo 35 = .ok (.getfield 16, 3) := by decide +kernel
theorem dX9_undo_38 : decode cX9_undo 38 = .ok (.sipush 367, 3) := by decide +kernel
theorem dX9_undo_41 : decode cX9_undo 41 = .ok (.aload_n 0, 1) := by decide +kernel
theorem dX9_undo_42 : decode cX9_undo 42 = .ok (.getfield 54, 3) := by decide +kernel
theorem dX9_undo_45 : decode cX9_undo 45 = .ok (.imul, 1) := by decide +kernel
theorem dX9_undo_46 : decode cX9_undo 46 = .ok (.iload_n 1, 1) := by decide +kernel
theorem dX9_undo_47 : decode cX9_undo 47 = .ok (.iadd, 1) := by decide +kernel
theorem dX9_undo_48 : decode cX9_undo 48 = .ok (.iaload, 1) := by decide +kernel
theorem dX9_undo_49 : decode cX9_undo 49 = .ok (.iastore, 1) := by decide +kernel
theorem dX9_undo_50 : decode cX9_undo 50 = .ok (.iinc 1 1, 3) := by decide +kernel
theorem dX9_undo_53 : decode cX9_undo 53 = .ok (.goto (-31), 3) := by decide +kernel
theorem dX9_undo_56 : decode cX9_undo 56 = .ok (.aload_n 0, 1) := by decide +kernel
theorem dX9_undo_57 : decode cX9_undo 57 = .ok (.getfield 54, 3) := by decide +kernel
theorem dX9_undo_60 : decode cX9_undo 60 = .ok (.ireturn, 1) := by decide +kernel
theorem dX9_allChips_0 : decode cX9_allChips 0 = .ok (.iconst 0, 1) := by decide +kernel
theorem dX9_allChips_1 : decode cX9_allChips 1 = .ok (.istore_n 1, 1) := by decide +kernel
theorem dX9_allChips_2 : decode cX9_allChips 2 = .ok (.iconst 0, 1) := by decide +kernel
theorem dX9_allChips_3 : decode cX9_allChips 3 = .ok (.istore_n 2, 1) := by decide +kernel
theorem dX9_allChips_4 : decode cX9_allChips 4 = .ok (.iload_n 2, 1) := by decide +kernel
theorem dX9_allChips_5 : decode cX9_allChips 5 = .ok (.sipush 256, 3) := by decide +kernel
theorem dX9_allChips_8 : decode cX9_allChips 8 = .ok (.if_icmp .ge 21, 3) := by decide +kernel
theorem dX9_allChips_11 : decode cX9_allChips 11 = .ok (.iload_n 1, 1) := by decide +kernel
theorem dX9_allChips_12 : decode cX9_allChips 12 = .ok (.aload_n 0, 1) := by decide +kernel
theorem dX9_allChips_13 : decode cX9_allChips 13 = .ok (.getfield 7, 3) := by decide +kernel
theorem dX9_allChips_16 : decode cX9_allChips 16 = .ok (.bipush 9, 2) := by decide +kernel
theorem dX9_allChips_18 : decode cX9_allChips 18 = .ok (.iload_n 2, 1) := by decide +kernel
theorem dX9_allChips_19 : decode cX9_allChips 19 = .ok (.iadd, 1) := by decide +kernel
theorem dX9_allChips_20 : decode cX9_allChips 20 = .ok (.iaload, 1) := by decide +kernel
theorem dX9_allChips_21 : decode cX9_allChips 21 = .ok (.iadd, 1) := by decide +kernel
theorem dX9_allChips_22 : decode cX9_allChips 22 = .ok (.istore_n 1, 1) := by decide +kernel
theorem dX9_allChips_23 : decode cX9_allChips 23 = .ok (.iinc 2 1, 3) := by decide +kernel
theorem dX9_allChips_26 : decode cX9_allChips 26 = .ok (.goto (-22), 3) := by decide +kernel
theorem dX9_allChips_29 : decode cX9_allChips 29 = .ok (.iload_n 1, 1) := by decide +kernel
theorem dX9_allChips_30 : decode cX9_allChips 30 = .ok (.ireturn, 1) := by decide +kernel
theorem dX9_keep_0 : decode cX9_keep 0 = .ok (.iload_n 1, 1) := by decide +kernel
theorem dX9_keep_1 : decode cX9_keep 1 = .ok (.iconst 0, 1) := by decide +kernel
theorem dX9_keep_2 : decode cX9_keep 2 = .ok (.iconst 1, 1) := by decide +kernel
theorem dX9_keep_3 : decode cX9_keep 3 = .ok (.invokestatic 58, 3) := by decide +kernel
theorem dX9_keep_6 : decode cX9_keep 6 = .ok (.ifCond .ne 5, 3) := by decide +kernel
theorem dX9_keep_9 : decode cX9_keep 9 = .ok (.iconst (-1), 1) := by decide +kernel
theorem dX9_keep_10 : decode cX9_keep 10 = .ok (.ireturn, 1) := by decide +kernel
theorem dX9_keep_11 : decode cX9_keep 11 = .ok (.aload_n 0, 1) := by decide +kernel
theorem dX9_keep_12 : decode cX9_keep 12 = .ok (.getfield 22, 3) := by decide +kernel
theorem dX9_keep_15 : decode cX9_keep 15 = .ok (.iload_n 1, 1) := by decide +kernel
theorem dX9_keep_16 : decode cX9_keep 16 = .ok (.iconst 1, 1) := by decide +kernel
theorem dX9_keep_17 : decode cX9_keep 17 = .ok (.bastore, 1) := by decide +kernel
theorem dX9_keep_18 : decode cX9_keep 18 = .ok (.iconst 0, 1) := by decide +kernel
theorem dX9_keep_19 : decode cX9_keep 19 = .ok (.istore_n 2, 1) := by decide +kernel
theorem dX9_keep_20 : decode cX9_keep 20 = .ok (.iload_n 2, 1) := by decide +kernel
theorem dX9_keep_21 : decode cX9_keep 21 = .ok (.sipush 367, 3) := by decide +kernel
theorem dX9_keep_24 : decode cX9_keep 24 = .ok (.if_icmp .ge 27, 3) := by decide +kernel
theorem dX9_keep_27 : decode cX9_keep 27 = .ok (.aload_n 0, 1) := by decide +kernel
theorem dX9_keep_28 : decode cX9_keep 28 = .ok (.getfield 19, 3) := by decide +kernel
theorem dX9_keep_31 : decode cX9_keep 31 = .ok (.sipush 367, 3) := by decide +kernel
theorem dX9_keep_34 : decode cX9_keep 34 = .ok (.iload_n 1, 1) := by decide +kernel
theorem dX9_keep_35 : decode cX9_keep 35 = .ok (.imul, 1) := by decide +kernel
theorem dX9_keep_36 : decode cX9_keep 36 = .ok (.iload_n 2, 1) := by decide +kernel
theorem dX9_keep_37 : decode cX9_keep 37 = .ok (.iadd, 1) := by decide +kernel
theorem dX9_keep_38 : decode cX9_keep 38 = .ok (.aload_n 0, 1) := by decide +kernel
theorem dX9_keep_39 : decode cX9_keep 39 = .ok (.getfield 7, 3) := by decide +kernel
theorem dX9_keep_42 : decode cX9_keep 42 = .ok (.iload_n 2, 1) := by decide +kernel
theorem dX9_keep_43 : decode cX9_keep 43 = .ok (.iaload, 1) := by decide +kernel
theorem dX9_keep_44 : decode cX9_keep 44 = .ok (.iastore, 1) := by decide +kernel
theorem dX9_keep_45 : decode cX9_keep 45 = .ok (.iinc 2 1, 3) := by decide +kernel
theorem dX9_keep_48 : decode cX9_keep 48 = .ok (.goto (-28), 3) := by decide +kernel
theorem dX9_keep_51 : decode cX9_keep 51 = .ok (.aload_n 0, 1) := by decide +kernel
theorem dX9_keep_52 : decode cX9_keep 52 = .ok (.invokevirtual 62, 3) := by decide +kernel
theorem dX9_keep_55 : decode cX9_keep 55 = .ok (.ireturn, 1) := by decide +kernel
theorem dX9_restore_0 : decode cX9_restore 0 = .ok (.iload_n 1, 1) := by decide +kernel
theorem dX9_restore_1 : decode cX9_restore 1 = .ok (.iconst 0, 1) := by decide +kernel
theorem dX9_restore_2 : decode cX9_restore 2 = .ok (.iconst 1, 1) := by decide +kernel
theorem dX9_restore_3 : decode cX9_restore 3 = .ok (.invokestatic 58, 3) := by decide +kernel
theorem dX9_restore_6 : decode cX9_restore 6 = .ok (.ifCond .ne 5, 3) := by decide +kernel
theorem dX9_restore_9 : decode cX9_restore 9 = .ok (.iconst (-1), 1) := by decide +kernel
theorem dX9_restore_10 : decode cX9_restore 10 = .ok (.ireturn, 1) := by decide +kernel
theorem dX9_restore_11 : decode cX9_restore 11 = .ok (.aload_n 0, 1) := by decide +kernel
theorem dX9_restore_12 : decode cX9_restore 12 = .ok (.getfield 22, 3) := by decide +kernel
theorem dX9_restore_15 : decode cX9_restore 15 = .ok (.iload_n 1, 1) := by decide +kernel
theorem dX9_restore_16 : decode cX9_restore 16 = .ok (.baload, 1) := by decide +kernel
theorem dX9_restore_17 : decode cX9_restore 17 = .ok (.ifCond .ne 6, 3) := by decide +kernel
theorem dX9_restore_20 : decode cX9_restore 20 = .ok (.bipush (-5), 2) := by decide +kernel
theorem dX9_restore_22 : decode cX9_restore 22 = .ok (.ireturn, 1) := by decide +kernel
theorem dX9_restore_23 : decode cX9_restore 23 = .ok (.aload_n 0, 1) := by decide +kernel
theorem dX9_restore_24 : decode cX9_restore 24 = .ok (.invokevirtual 66, 3) := by decide +kernel
theorem dX9_restore_27 : decode cX9_restore 27 = .ok (.iconst 0, 1) := by decide +kernel
theorem dX9_restore_28 : decode cX9_restore 28 = .ok (.istore_n 2, 1) := by decide +kernel
theorem dX9_restore_29 : decode cX9_restore 29 = .ok (.iload_n 2, 1) := by decide +kernel
theorem dX9_restore_30 : decode cX9_restore 30 = .ok (.sipush 367, 3) := by decide +kernel
theorem dX9_restore_33 : decode cX9_restore 33 = .ok (.if_icmp .ge 27, 3) := by decide +kernel
theorem dX9_restore_36 : decode cX9_restore 36 = .ok (.aload_n 0, 1) := by decide +kernel
theorem dX9_restore_37 : decode cX9_restore 37 = .ok (.getfield 7, 3) := by decide +kernel
theorem dX9_restore_40 : decode cX9_restore 40 = .ok (.iload_n 2, 1) := by decide +kernel
theorem dX9_restore_41 : decode cX9_restore 41 = .ok (.aload_n 0, 1) := by decide +kernel
theorem dX9_restore_42 : decode cX9_restore 42 = .ok (.getfield 19, 3) := by decide +kernel
theorem dX9_restore_45 : decode cX9_restore 45 = .ok (.sipush 367, 3) := by decide +kernel
theorem dX9_restore_48 : decode cX9_restore 48 = .ok (.iload_n 1, 1) := by decide +kernel
theorem dX9_restore_49 : decode cX9_restore 49 = .ok (.imul, 1) := by decide +kernel
theorem dX9_restore_50 : decode cX9_restore 50 = .ok (.iload_n 2, 1) := by decide +kernel
theorem dX9_restore_51 : decode cX9_restore 51 = .ok (.iadd, 1) := by decide +kernel
theorem dX9_restore_52 : decode cX9_restore 52 = .ok (.iaload, 1) := by decide +kernel
theorem dX9_restore_53 : decode cX9_restore 53 = .ok (.iastore, 1) := by decide +kernel
theorem dX9_restore_54 : decode cX9_restore 54 = .ok (.iinc 2 1, 3) := by decide +kernel
theorem dX9_restore_57 : decode cX9_restore 57 = .ok (.goto (-28), 3) := by decide +kernel
theorem dX9_restore_60 : decode cX9_restore 60 = .ok (.aload_n 0, 1) := by decide +kernel
theorem dX9_restore_61 : decode cX9_restore 61 = .ok (.aload_n 0, 1) := by decide +kernel
theorem dX9_restore_62 : decode cX9_restore 62 = .ok (.invokevirtual 62, 3) := by decide +kernel
theorem dX9_restore_65 : decode cX9_restore 65 = .ok (.invokevirtual 69, 3) := by decide +kernel
theorem dX9_restore_68 : decode cX9_restore 68 = .ok (.ireturn, 1) := by decide +kernel
theorem dX9_isCell_0 : decode cX9_isCell 0 = .ok (.iload_n 1, 1) := by decide +kernel
theorem dX9_isCell_1 : decode cX9_isCell 1 = .ok (.iconst 0, 1) := by decide +kernel
theorem dX9_isCell_2 : decode cX9_isCell 2 = .ok (.aload_n 0, 1) := by decide +kernel
theorem dX9_isCell_3 : decode cX9_isCell 3 = .ok (.getfield 7, 3) := by decide +kernel
theorem dX9_isCell_6 : decode cX9_isCell 6 = .ok (.iconst 0, 1) := by decide +kernel
theorem dX9_isCell_7 : decode cX9_isCell 7 = .ok (.iaload, 1) := by decide +kernel
theorem dX9_isCell_8 : decode cX9_isCell 8 = .ok (.iconst 1, 1) := by decide +kernel
theorem dX9_isCell_9 : decode cX9_isCell 9 = .ok (.isub, 1) := by decide +kernel
theorem dX9_isCell_10 : decode cX9_isCell 10 = .ok (.invokestatic 58, 3) := by decide +kernel
theorem dX9_isCell_13 : decode cX9_isCell 13 = .ok (.ifCond .eq 23, 3) := by decide +kernel
theorem dX9_isCell_16 : decode cX9_isCell 16 = .ok (.iload_n 2, 1) := by decide +kernel
theorem dX9_isCell_17 : decode cX9_isCell 17 = .ok (.iconst 0, 1) := by decide +kernel
theorem dX9_isCell_18 : decode cX9_isCell 18 = .ok (.aload_n 0, 1) := by decide +kernel
theorem dX9_isCell_19 : decode cX9_isCell 19 = .ok (.getfield 7, 3) := by decide +kernel
theorem dX9_isCell_22 : decode cX9_isCell 22 = .ok (.iconst 1, 1) := by decide +kernel
theorem dX9_isCell_23 : decode cX9_isCell 23 = .ok (.iaload, 1) := by decide +kernel
theorem dX9_isCell_24 : decode cX9_isCell 24 = .ok (.iconst 1, 1) := by decide +kernel
theorem dX9_isCell_25 : decode cX9_isCell 25 = .ok (.isub, 1) := by decide +kernel
theorem dX9_isCell_26 : decode cX9_isCell 26 = .ok (.invokestatic 58, 3) := by decide +kernel
theorem dX9_isCell_29 : decode cX9_isCell 29 = .ok (.ifCond .eq 7, 3) := by decide +kernel
theorem dX9_isCell_32 : decode cX9_isCell 32 = .ok (.iconst 1, 1) := by decide +kernel
theorem dX9_isCell_33 : decode cX9_isCell 33 = .ok (.goto 4, 3) := by decide +kernel
theorem dX9_isCell_36 : decode cX9_isCell 36 = .ok (.iconst 0, 1) := by decide +kernel
theorem dX9_isCell_37 : decode cX9_isCell 37 = .ok (.ireturn, 1) := by decide +kernel
theorem dX9_of_0 : decode cX9_of 0 = .ok (.aload_n 0, 1) := by decide +kernel
theorem dX9_of_1 : decode cX9_of 1 = .ok (.getfield 7, 3) := by decide +kernel
theorem dX9_of_4 : decode cX9_of 4 = .ok (.sipush 265, 3) := by decide +kernel
theorem dX9_of_7 : decode cX9_of 7 = .ok (.bipush 9, 2) := by decide +kernel
theorem dX9_of_9 : decode cX9_of 9 = .ok (.iload_n 1, 1) := by decide +kernel
theorem dX9_of_10 : decode cX9_of 10 = .ok (.imul, 1) := by decide +kernel
theorem dX9_of_11 : decode cX9_of 11 = .ok (.iadd, 1) := by decide +kernel
theorem dX9_of_12 : decode cX9_of 12 = .ok (.iload_n 2, 1) := by decide +kernel
theorem dX9_of_13 : decode cX9_of 13 = .ok (.iadd, 1) := by decide +kernel
theorem dX9_of_14 : decode cX9_of 14 = .ok (.iaload, 1) := by decide +kernel
theorem dX9_of_15 : decode cX9_of 15 = .ok (.ireturn, 1) := by decide +kernel
theorem dX9_lay_0 : decode cX9_lay 0 = .ok (.aload_n 0, 1) := by decide +kernel
theorem dX9_lay_1 : decode cX9_lay 1 = .ok (.getfield 7, 3) := by decide +kernel
theorem dX9_lay_4 : decode cX9_lay 4 = .ok (.sipush 265, 3) := by decide +kernel
theorem dX9_lay_7 : decode cX9_lay 7 = .ok (.bipush 9, 2) := by decide +kernel
theorem dX9_lay_9 : decode cX9_lay 9 = .ok (.iload_n 1, 1) := by decide +kernel
theorem dX9_lay_10 : decode cX9_lay 10 = .ok (.imul, 1) := by decide +kernel
theorem dX9_lay_11 : decode cX9_lay 11 = .ok (.iadd, 1) := by decide +kernel
theorem dX9_lay_12 : decode cX9_lay 12 = .ok (.iload_n 2, 1) := by decide +kernel
theorem dX9_lay_13 : decode cX9_lay 13 = .ok (.iadd, 1) := by decide +kernel
theorem dX9_lay_14 : decode cX9_lay 14 = .ok (.iload_n 3, 1) := by decide +kernel
theorem dX9_lay_15 : decode cX9_lay 15 = .ok (.iastore, 1) := by decide +kernel
theorem dX9_lay_16 : decode cX9_lay 16 = .ok (.return_, 1) := by decide +kernel
theorem dX9_noWalker_0 : decode cX9_noWalker 0 = .ok (.iload_n 1, 1) := by decide +kernel
theorem dX9_noWalker_1 : decode cX9_noWalker 1 = .ok (.iconst 0, 1) := by decide +kernel
theorem dX9_noWalker_2 : decode cX9_noWalker 2 = .ok (.aload_n 0, 1) := by decide +kernel
theorem dX9_noWalker_3 : decode cX9_noWalker 3 = .ok (.getfield 7, 3) := by decide +kernel
theorem dX9_noWalker_6 : decode cX9_noWalker 6 = .ok (.iconst 2, 1) := by decide +kernel
theorem dX9_noWalker_7 : decode cX9_noWalker 7 = .ok (.iaload, 1) := by decide +kernel
theorem dX9_noWalker_8 : decode cX9_noWalker 8 = .ok (.iconst 1, 1) := by decide +kernel
theorem dX9_noWalker_9 : decode cX9_noWalker 9 = .ok (.isub, 1) := by decide +kernel
theorem dX9_noWalker_10 : decode cX9_noWalker 10 = .ok (.invokestatic 58, 3) := by decide +kernel
theorem dX9_noWalker_13 : decode cX9_noWalker 13 = .ok (.ifCond .ne 7, 3) := by decide +kernel
theorem dX9_noWalker_16 : decode cX9_noWalker 16 = .ok (.iconst 1, 1) := by decide +kernel
theorem dX9_noWalker_17 : decode cX9_noWalker 17 = .ok (.goto 4, 3) := by decide +kernel
theorem dX9_noWalker_20 : decode cX9_noWalker 20 = .ok (.iconst 0, 1) := by decide +kernel
theorem dX9_noWalker_21 : decode cX9_noWalker 21 = .ok (.ireturn, 1) := by decide +kernel
theorem dX9_reset_0 : decode cX9_reset 0 = .ok (.iload_n 1, 1) := by decide +kernel
theorem dX9_reset_1 : decode cX9_reset 1 = .ok (.iconst 2, 1) := by decide +kernel
theorem dX9_reset_2 : decode cX9_reset 2 = .ok (.bipush 16, 2) := by decide +kernel
theorem dX9_reset_4 : decode cX9_reset 4 = .ok (.invokestatic 58, 3) := by decide +kernel
theorem dX9_reset_7 : decode cX9_reset 7 = .ok (.ifCond .eq 13, 3) := by decide +kernel
theorem dX9_reset_10 : decode cX9_reset 10 = .ok (.iload_n 2, 1) := by decide +kernel
theorem dX9_reset_11 : decode cX9_reset 11 = .ok (.iconst 2, 1) := by decide +kernel
theorem dX9_reset_12 : decode cX9_reset 12 = .ok (.bipush 16, 2) := by decide +kernel
theorem dX9_reset_14 : decode cX9_reset 14 = .ok (.invokestatic 58, 3) := by decide +kernel
theorem dX9_reset_17 : decode cX9_reset 17 = .ok (.ifCond .ne 6, 3) := by decide +kernel
theorem dX9_reset_20 : decode cX9_reset 20 = .ok (.bipush (-2), 2) := by decide +kernel
theorem dX9_reset_22 : decode cX9_reset 22 = .ok (.ireturn, 1) := by decide +kernel
theorem dX9_reset_23 : decode cX9_reset 23 = .ok (.aload_n 0, 1) := by decide +kernel
theorem dX9_reset_24 : decode cX9_reset 24 = .ok (.invokevirtual 66, 3) := by decide +kernel
theorem dX9_reset_27 : decode cX9_reset 27 = .ok (.aload_n 0, 1) := by decide +kernel
theorem dX9_reset_28 : decode cX9_reset 28 = .ok (.getfield 7, 3) := by decide +kernel
theorem dX9_reset_31 : decode cX9_reset 31 = .ok (.iconst 0, 1) := by decide +kernel
theorem dX9_reset_32 : decode cX9_reset 32 = .ok (.iload_n 1, 1) := by decide +kernel
theorem dX9_reset_33 : decode cX9_reset 33 = .ok (.iastore, 1) := by decide +kernel
theorem dX9_reset_34 : decode cX9_reset 34 = .ok (.aload_n 0, 1) := by decide +kernel
theorem dX9_reset_35 : decode cX9_reset 35 = .ok (.getfield 7, 3) := by decide +kernel
theorem dX9_reset_38 : decode cX9_reset 38 = .ok (.iconst 1, 1) := by decide +kernel
theorem dX9_reset_39 : decode cX9_reset 39 = .ok (.iload_n 2, 1) := by decide +kernel
theorem dX9_reset_40 : decode cX9_reset 40 = .ok (.iastore, 1) := by decide +kernel
theorem dX9_reset_41 : decode cX9_reset 41 = .ok (.aload_n 0, 1) := by decide +kernel
theorem dX9_reset_42 : decode cX9_reset 42 = .ok (.getfield 7, 3) := by decide +kernel
theorem dX9_reset_45 : decode cX9_reset 45 = .ok (.iconst 2, 1) := by decide +kernel
theorem dX9_reset_46 : decode cX9_reset 46 = .ok (.iconst 0, 1) := by decide +kernel
theorem dX9_reset_47 : decode cX9_reset 47 = .ok (.iastore, 1) := by decide +kernel
theorem dX9_reset_48 : decode cX9_reset 48 = .ok (.aload_n 0, 1) := by decide +kernel
theorem dX9_reset_49 : decode cX9_reset 49 = .ok (.getfield 7, 3) := by decide +kernel
theorem dX9_reset_52 : decode cX9_reset 52 = .ok (.bipush 6, 2) := by decide +kernel
theorem dX9_reset_54 : decode cX9_reset 54 = .ok (.iconst 0, 1) := by decide +kernel
theorem dX9_reset_55 : decode cX9_reset 55 = .ok (.iastore, 1) := by decide +kernel
theorem dX9_reset_56 : decode cX9_reset 56 = .ok (.aload_n 0, 1) := by decide +kernel
theorem dX9_reset_57 : decode cX9_reset 57 = .ok (.getfield 7, 3) := by decide +kernel
theorem dX9_reset_60 : decode cX9_reset 60 = .ok (.bipush 7, 2) := by decide +kernel
theorem dX9_reset_62 : decode cX9_reset 62 = .ok (.iconst 0, 1) := by decide +kernel
theorem dX9_reset_63 : decode cX9_reset 63 = .ok (.iastore, 1) := by decide +kernel
theorem dX9_reset_64 : decode cX9_reset 64 = .ok (.aload_n 0, 1) := by decide +kernel
theorem dX9_reset_65 : decode cX9_reset 65 = .ok (.getfield 7, 3) := by decide +kernel
theorem dX9_reset_68 : decode cX9_reset 68 = .ok (.bipush 8, 2) := by decide +kernel
theorem dX9_reset_70 : decode cX9_reset 70 = .ok (.iconst 0, 1) := by decide +kernel
theorem dX9_reset_71 : decode cX9_reset 71 = .ok (.iastore, 1) := by decide +kernel
theorem dX9_reset_72 : decode cX9_reset 72 = .ok (.iconst 0, 1) := by decide +kernel
theorem dX9_reset_73 : decode cX9_reset 73 = .ok (.istore_n 3, 1) := by decide +kernel
theorem dX9_reset_74 : decode cX9_reset 74 = .ok (.iload_n 3, 1) := by decide +kernel
theorem dX9_reset_75 : decode cX9_reset 75 = .ok (.sipush 256, 3) := by decide +kernel
theorem dX9_reset_78 : decode cX9_reset 78 = .ok (.if_icmp .ge 19, 3) := by decide +kernel
theorem dX9_reset_81 : decode cX9_reset 81 = .ok (.aload_n 0, 1) := by decide +kernel
theorem dX9_reset_82 : decode cX9_reset 82 = .ok (.getfield 7, 3) := by decide +kernel
theorem dX9_reset_85 : decode cX9_reset 85 = .ok (.bipush 9, 2) := by decide +kernel
theorem dX9_reset_87 : decode cX9_reset 87 = .ok (.iload_n 3, 1) := by decide +kernel
theorem dX9_reset_88 : decode cX9_reset 88 = .ok (.iadd, 1) := by decide +kernel
theorem dX9_reset_89 : decode cX9_reset 89 = .ok (.iconst 0, 1) := by decide +kernel
theorem dX9_reset_90 : decode cX9_reset 90 = .ok (.iastore, 1) := by decide +kernel
theorem dX9_reset_91 : decode cX9_reset 91 = .ok (.iinc 3 1, 3) := by decide +kernel
theorem dX9_reset_94 : decode cX9_reset 94 = .ok (.goto (-20), 3) := by decide +kernel
theorem dX9_reset_97 : decode cX9_reset 97 = .ok (.aload_n 0, 1) := by decide +kernel
theorem dX9_reset_98 : decode cX9_reset 98 = .ok (.iload_n 1, 1) := by decide +kernel
theorem dX9_reset_99 : decode cX9_reset 99 = .ok (.iload_n 2, 1) := by decide +kernel
theorem dX9_reset_100 : decode cX9_reset 100 = .ok (.imul, 1) := by decide +kernel
theorem dX9_reset_101 : decode cX9_reset 101 = .ok (.invokevirtual 69, 3) := by decide +kernel
theorem dX9_reset_104 : decode cX9_reset 104 = .ok (.ireturn, 1) := by decide +kernel
theorem dX9_put_0 : decode cX9_put 0 = .ok (.aload_n 0, 1) := by decide +kernel
theorem dX9_put_1 : decode cX9_put 1 = .ok (.iload_n 1, 1) := by decide +kernel
theorem dX9_put_2 : decode cX9_put 2 = .ok (.iload_n 2, 1) := by decide +kernel
theorem dX9_put_3 : decode cX9_put 3 = .ok (.invokevirtual 73, 3) := by decide +kernel
theorem dX9_put_6 : decode cX9_put 6 = .ok (.ifCond .ne 5, 3) := by decide +kernel
theorem dX9_put_9 : decode cX9_put 9 = .ok (.iconst (-1), 1) := by decide +kernel
theorem dX9_put_10 : decode cX9_put 10 = .ok (.ireturn, 1) := by decide +kernel
theorem dX9_put_11 : decode cX9_put 11 = .ok (.iload_n 3, 1) := by decide +kernel
theorem dX9_put_12 : decode cX9_put 12 = .ok (.iconst 0, 1) := by decide +kernel
theorem dX9_put_13 : decode cX9_put 13 = .ok (.bipush 99, 2) := by decide +kernel
theorem dX9_put_15 : decode cX9_put 15 = .ok (.invokestatic 58, 3) := by decide +kernel
theorem dX9_put_18 : decode cX9_put 18 = .ok (.ifCond .ne 6, 3) := by decide +kernel
theorem dX9_put_21 : decode cX9_put 21 = .ok (.bipush (-2), 2) := by decide +kernel
theorem dX9_put_23 : decode cX9_put 23 = .ok (.ireturn, 1) := by decide +kernel
theorem dX9_put_24 : decode cX9_put 24 = .ok (.aload_n 0, 1) := by decide +kernel
theorem dX9_put_25 : decode cX9_put 25 = .ok (.invokevirtual 66, 3) := by decide +kernel
theorem dX9_put_28 : decode cX9_put 28 = .ok (.aload_n 0, 1) := by decide +kernel
theorem dX9_put_29 : decode cX9_put 29 = .ok (.getfield 7, 3) := by decide +kernel
theorem dX9_put_32 : decode cX9_put 32 = .ok (.bipush 9, 2) := by decide +kernel
theorem dX9_put_34 : decode cX9_put 34 = .ok (.bipush 16, 2) := by decide +kernel
theorem dX9_put_36 : decode cX9_put 36 = .ok (.iload_n 1, 1) := by decide +kernel
theorem dX9_put_37 : decode cX9_put 37 = .ok (.imul, 1) := by decide +kernel
theorem dX9_put_38 : decode cX9_put 38 = .ok (.iadd, 1) := by decide +kernel
theorem dX9_put_39 : decode cX9_put 39 = .ok (.iload_n 2, 1) := by decide +kernel
theorem dX9_put_40 : decode cX9_put 40 = .ok (.iadd, 1) := by decide +kernel
theorem dX9_put_41 : decode cX9_put 41 = .ok (.iaload, 1) := by decide +kernel
theorem dX9_put_42 : decode cX9_put 42 = .ok (.istore 4, 2) := by decide +kernel
theorem dX9_put_44 : decode cX9_put 44 = .ok (.aload_n 0, 1) := by decide +kernel
theorem dX9_put_45 : decode cX9_put 45 = .ok (.getfield 7, 3) := by decide +kernel
theorem dX9_put_48 : decode cX9_put 48 = .ok (.bipush 9, 2) := by decide +kernel
theorem dX9_put_50 : decode cX9_put 50 = .ok (.bipush 16, 2) := by decide +kernel
theorem dX9_put_52 : decode cX9_put 52 = .ok (.iload_n 1, 1) := by decide +kernel
theorem dX9_put_53 : decode cX9_put 53 = .ok (.imul, 1) := by decide +kernel
theorem dX9_put_54 : decode cX9_put 54 = .ok (.iadd, 1) := by decide +kernel
theorem dX9_put_55 : decode cX9_put 55 = .ok (.iload_n 2, 1) := by decide +kernel
theorem dX9_put_56 : decode cX9_put 56 = .ok (.iadd, 1) := by decide +kernel
theorem dX9_put_57 : decode cX9_put 57 = .ok (.iload_n 3, 1) := by decide +kernel
theorem dX9_put_58 : decode cX9_put 58 = .ok (.iastore, 1) := by decide +kernel
theorem dX9_put_59 : decode cX9_put 59 = .ok (.aload_n 0, 1) := by decide +kernel
theorem dX9_put_60 : decode cX9_put 60 = .ok (.iload 4, 2) := by decide +kernel
theorem dX9_put_62 : decode cX9_put 62 = .ok (.invokevirtual 69, 3) := by decide +kernel
theorem dX9_put_65 : decode cX9_put 65 = .ok (.ireturn, 1) := by decide +kernel
theorem dX9_strew_0 : decode cX9_strew 0 = .ok (.iload_n 1, 1) := by decide +kernel
theorem dX9_strew_1 : decode cX9_strew 1 = .ok (.iconst 0, 1) := by decide +kernel
theorem dX9_strew_2 : decode cX9_strew 2 = .ok (.bipush 9, 2) := by decide +kernel
theorem dX9_strew_4 : decode cX9_strew 4 = .ok (.invokestatic 58, 3) := by decide +kernel
theorem dX9_strew_7 : decode cX9_strew 7 = .ok (.ifCond .eq 23, 3) := by decide +kernel
theorem dX9_strew_10 : decode cX9_strew 10 = .ok (.iload_n 2, 1) := by decide +kernel
theorem dX9_strew_11 : decode cX9_strew 11 = .ok (.iconst 0, 1) := by decide +kernel
theorem dX9_strew_12 : decode cX9_strew 12 = .ok (.bipush 9, 2) := by decide +kernel
theorem dX9_strew_14 : decode cX9_strew 14 = .ok (.invokestatic 58, 3) := by decide +kernel
theorem dX9_strew_17 : decode cX9_strew 17 = .ok (.ifCond .eq 13, 3) := by decide +kernel
theorem dX9_strew_20 : decode cX9_strew 20 = .ok (.iload_n 3, 1) := by decide +kernel
theorem dX9_strew_21 : decode cX9_strew 21 = .ok (.iconst 1, 1) := by decide +kernel
theorem dX9_strew_22 : decode cX9_strew 22 = .ok (.bipush 20, 2) := by decide +kernel
theorem dX9_strew_24 : decode cX9_strew 24 = .ok (.invokestatic 58, 3) := by decide +kernel
theorem dX9_strew_27 : decode cX9_strew 27 = .ok (.ifCond .ne 6, 3) := by decide +kernel
theorem dX9_strew_30 : decode cX9_strew 30 = .ok (.bipush (-2), 2) := by decide +kernel
theorem dX9_strew_32 : decode cX9_strew 32 = .ok (.ireturn, 1) := by decide +kernel
theorem dX9_strew_33 : decode cX9_strew 33 = .ok (.aload_n 0, 1) := by decide +kernel
theorem dX9_strew_34 : decode cX9_strew 34 = .ok (.invokevirtual 66, 3) := by decide +kernel
theorem dX9_strew_37 : decode cX9_strew 37 = .ok (.iconst 0, 1) := by decide +kernel
theorem dX9_strew_38 : decode cX9_strew 38 = .ok (.istore 4, 2) := by decide +kernel
theorem dX9_strew_40 : decode cX9_strew 40 = .ok (.iconst 0, 1) := by decide +kernel
theorem dX9_strew_41 : decode cX9_strew 41 = .ok (.istore 5, 2) := by decide +kernel
theorem dX9_strew_43 : decode cX9_strew 43 = .ok (.iload 5, 2) := by decide +kernel
theorem dX9_strew_45 : decode cX9_strew 45 = .ok (.aload_n 0, 1) := by decide +kernel
theorem dX9_strew_46 : decode cX9_strew 46 = .ok (.getfield 7, 3) := by decide +kernel
theorem dX9_strew_49 : decode cX9_strew 49 = .ok (.iconst 0, 1) := by decide +kernel
theorem dX9_strew_50 : decode cX9_strew 50 = .ok (.iaload, 1) := by decide +kernel
theorem dX9_strew_51 : decode cX9_strew 51 = .ok (.if_icmp .ge 110, 3) := by decide +kernel
theorem dX9_strew_54 : decode cX9_strew 54 = .ok (.iconst 0, 1) := by decide +kernel
theorem dX9_strew_55 : decode cX9_strew 55 = .ok (.istore 6, 2) := by decide +kernel
theorem dX9_strew_57 : decode cX9_strew 57 = .ok (.iload 6, 2) := by decide +kernel
theorem dX9_strew_59 : decode cX9_strew 59 = .ok (.aload_n 0, 1) := by decide +kernel
theorem dX9_strew_60 : decode cX9_strew 60 = .ok (.getfield 7, 3) := by decide +kernel
theorem dX9_strew_63 : decode cX9_strew 63 = .ok (.iconst 1, 1) := by decide +kernel
theorem dX9_strew_64 : decode cX9_strew 64 = .ok (.iaload, 1) := by decide +kernel
theorem dX9_strew_65 : decode cX9_strew 65 = .ok (.if_icmp .ge 90, 3) := by decide +kernel
theorem dX9_strew_68 : decode cX9_strew 68 = .ok (.bipush 9, 2) := by decide +kernel
theorem dX9_strew_70 : decode cX9_strew 70 = .ok (.bipush 16, 2) := by decide +kernel
theorem dX9_strew_72 : decode cX9_strew 72 = .ok (.iload 5, 2) := by decide +kernel
theorem dX9_strew_74 : decode cX9_strew 74 = .ok (.imul, 1) := by decide +kernel
theorem dX9_strew_75 : decode cX9_strew 75 = .ok (.iadd, 1) := by decide +kernel
theorem dX9_strew_76 : decode cX9_strew 76 = .ok (.iload 6, 2) := by decide +kernel
theorem dX9_strew_78 : decode cX9_strew 78 = .ok (.iadd, 1) := by decide +kernel
theorem dX9_strew_79 : decode cX9_strew 79 = .ok (.istore 7, 2) := by decide +kernel
theorem dX9_strew_81 : decode cX9_strew 81 = .ok (.iload 5, 2) := by decide +kernel
theorem dX9_strew_83 : decode cX9_strew 83 = .ok (.iload_n 1, 1) := by decide +kernel
theorem dX9_strew_84 : decode cX9_strew 84 = .ok (.imul, 1) := by decide +kernel
theorem dX9_strew_85 : decode cX9_strew 85 = .ok (.iload 6, 2) := by decide +kernel
theorem dX9_strew_87 : decode cX9_strew 87 = .ok (.iload_n 2, 1) := by decide +kernel
theorem dX9_strew_88 : decode cX9_strew 88 = .ok (.imul, 1) := by decide +kernel
theorem dX9_strew_89 : decode cX9_strew 89 = .ok (.iadd, 1) := by decide +kernel
theorem dX9_strew_90 : decode cX9_strew 90 = .ok (.iload_n 3, 1) := by decide +kernel
theorem dX9_strew_91 : decode cX9_strew 91 = .ok (.irem, 1) := by decide +kernel
theorem dX9_strew_92 : decode cX9_strew 92 = .ok (.ifCond .ne 19, 3) := by decide +kernel
theorem dX9_strew_95 : decode cX9_strew 95 = .ok (.aload_n 0, 1) := by decide +kernel
theorem dX9_strew_96 : decode cX9_strew 96 = .ok (.getfield 7, 3) := by decide +kernel
theorem dX9_strew_99 : decode cX9_strew 99 = .ok (.iload 7, 2) := by decide +kernel
theorem dX9_strew_101 : decode cX9_strew 101 = .ok (.iaload, 1) := by decide +kernel
theorem dX9_strew_102 : decode cX9_strew 102 = .ok (.bipush 99, 2) := by decide +kernel
theorem dX9_strew_104 : decode cX9_strew 104 = .ok (.if_icmp .ge 7, 3) := by decide +kernel
theorem dX9_strew_107 : decode cX9_strew 107 = .ok (.iconst 1, 1) := by decide +kernel
theorem dX9_strew_108 : decode cX9_strew 108 = .ok (.goto 4, 3) := by decide +kernel
theorem dX9_strew_111 : decode cX9_strew 111 = .ok (.iconst 0, 1) := by decide +kernel
theorem dX9_strew_112 : decode cX9_strew 112 = .ok (.istore 8, 2) := by decide +kernel
theorem dX9_strew_114 : decode cX9_strew 114 = .ok (.aload_n 0, 1) := by decide +kernel
theorem dX9_strew_115 : decode cX9_strew 115 = .ok (.getfield 7, 3) := by decide +kernel
theorem dX9_strew_118 : decode cX9_strew 118 = .ok (.iload 7, 2) := by decide +kernel
theorem dX9_strew_120 : decode cX9_strew 120 = .ok (.dup2, 1) := by decide +kernel
theorem dX9_strew_121 : decode cX9_strew 121 = .ok (.iaload, 1) := by decide +kernel
theorem dX9_strew_122 : decode cX9_strew 122 = .ok (.iload 8, 2) := by decide +kernel
theorem dX9_strew_124 : decode cX9_strew 124 = .ok (.ifCond .eq 7, 3) := by decide +kernel
theorem dX9_strew_127 : decode cX9_strew 127 = .ok (.iconst 1, 1) := by decide +kernel
theorem dX9_strew_128 : decode cX9_strew 128 = .ok (.goto 4, 3) := by decide +kernel
theorem dX9_strew_131 : decode cX9_strew 131 = .ok (.iconst 0, 1) := by decide +kernel
theorem dX9_strew_132 : decode cX9_strew 132 = .ok (.iadd, 1) := by decide +kernel
theorem dX9_strew_133 : decode cX9_strew 133 = .ok (.iastore, 1) := by decide +kernel
theorem dX9_strew_134 : decode cX9_strew 134 = .ok (.iload 4, 2) := by decide +kernel
theorem dX9_strew_136 : decode cX9_strew 136 = .ok (.iload 8, 2) := by decide +kernel
theorem dX9_strew_138 : decode cX9_strew 138 = .ok (.ifCond .eq 7, 3) := by decide +kernel
theorem dX9_strew_141 : decode cX9_strew 141 = .ok (.iconst 1, 1) := by decide +kernel
theorem dX9_strew_142 : decode cX9_strew 142 = .ok (.goto 4, 3) := by decide +kernel
theorem dX9_strew_145 : decode cX9_strew 145 = .ok (.iconst 0, 1) := by decide +kernel
theorem dX9_strew_146 : decode cX9_strew 146 = .ok (.iadd, 1) := by decide +kernel
theorem dX9_strew_147 : decode cX9_strew 147 = .ok (.istore 4, 2) := by decide +kernel
theorem dX9_strew_149 : decode cX9_strew 149 = .ok (.iinc 6 1, 3) := by decide +kernel
theorem dX9_strew_152 : decode cX9_strew 152 = .ok (.goto (-95), 3) := by decide +kernel
theorem dX9_strew_155 : decode cX9_strew 155 = .ok (.iinc 5 1, 3) := by decide +kernel
theorem dX9_strew_158 : decode cX9_strew 158 = .ok (.goto (-115), 3) := by decide +kernel
theorem dX9_strew_161 : decode cX9_strew 161 = .ok (.iload 4, 2) := by decide +kernel
theorem dX9_strew_163 : decode cX9_strew 163 = .ok (.ifCond .ne 8, 3) := by decide +kernel
theorem dX9_strew_166 : decode cX9_strew 166 = .ok (.bipush (-5), 2) := by decide +kernel
theorem dX9_strew_168 : decode cX9_strew 168 = .ok (.goto 9, 3) := by decide +kernel
theorem dX9_strew_171 : decode cX9_strew 171 = .ok (.aload_n 0, 1) := by decide +kernel
theorem dX9_strew_172 : decode cX9_strew 172 = .ok (.iload 4, 2) := by decide +kernel
theorem dX9_strew_174 : decode cX9_strew 174 = .ok (.invokevirtual 69, 3) := by decide +kernel
theorem dX9_strew_177 : decode cX9_strew 177 = .ok (.ireturn, 1) := by decide +kernel
theorem dX9_stepped_0 : decode cX9_stepped 0 = .ok (.iload_n 1, 1) := by decide +kernel
theorem dX9_stepped_1 : decode cX9_stepped 1 = .ok (.bipush 16, 2) := by decide +kernel
theorem dX9_stepped_3 : decode cX9_stepped 3 = .ok (.idiv, 1) := by decide +kernel
theorem dX9_stepped_4 : decode cX9_stepped 4 = .ok (.iload_n 2, 1) := by decide +kernel
theorem dX9_stepped_5 : decode cX9_stepped 5 = .ok (.iconst 2, 1) := by decide +kernel
theorem dX9_stepped_6 : decode cX9_stepped 6 = .ok (.if_icmp .ne 7, 3) := by decide +kernel
theorem dX9_stepped_9 : decode cX9_stepped 9 = .ok (.iconst 1, 1) := by decide +kernel
theorem dX9_stepped_10 : decode cX9_stepped 10 = .ok (.goto 12, 3) := by decide +kernel
theorem dX9_stepped_13 : decode cX9_stepped 13 = .ok (.iload_n 2, 1) := by decide +kernel
theorem dX9_stepped_14 : decode cX9_stepped 14 = .ok (.ifCond .ne 7, 3) := by decide +kernel
theorem dX9_stepped_17 : decode cX9_stepped 17 = .ok (.iconst (-1), 1) := by decide +kernel
theorem dX9_stepped_18 : decode cX9_stepped 18 = .ok (.goto 4, 3) := by decide +kernel
theorem dX9_stepped_21 : decode cX9_stepped 21 = .ok (.iconst 0, 1) := by decide +kernel
theorem dX9_stepped_22 : decode cX9_stepped 22 = .ok (.iadd, 1) := by decide +kernel
theorem dX9_stepped_23 : decode cX9_stepped 23 = .ok (.istore_n 3, 1) := by decide +kernel
theorem dX9_stepped_24 : decode cX9_stepped 24 = .ok (.iload_n 1, 1) := by decide +kernel
theorem dX9_stepped_25 : decode cX9_stepped 25 = .ok (.bipush 16, 2) := by decide +kernel
theorem dX9_stepped_27 : decode cX9_stepped 27 = .ok (.irem, 1) := by decide +kernel
theorem dX9_stepped_28 : decode cX9_stepped 28 = .ok (.iload_n 2, 1) := by decide +kernel
theorem dX9_stepped_29 : decode cX9_stepped 29 = .ok (.iconst 1, 1) := by decide +kernel
theorem dX9_stepped_30 : decode cX9_stepped 30 = .ok (.if_icmp .ne 7, 3) := by decide +kernel
theorem dX9_stepped_33 : decode cX9_stepped 33 = .ok (.iconst 1, 1) := by decide +kernel
theorem dX9_stepped_34 : decode cX9_stepped 34 = .ok (.goto 13, 3) := by decide +kernel
theorem dX9_stepped_37 : decode cX9_stepped 37 = .ok (.iload_n 2, 1) := by decide +kernel
theorem dX9_stepped_38 : decode cX9_stepped 38 = .ok (.iconst 3, 1) := by decide +kernel
theorem dX9_stepped_39 : decode cX9_stepped 39 = .ok (.if_icmp .ne 7, 3) := by decide +kernel
theorem dX9_stepped_42 : decode cX9_stepped 42 = .ok (.iconst (-1), 1) := by decide +kernel
theorem dX9_stepped_43 : decode cX9_stepped 43 = .ok (.goto 4, 3) := by decide +kernel
theorem dX9_stepped_46 : decode cX9_stepped 46 = .ok (.iconst 0, 1) := by decide +kernel
theorem dX9_stepped_47 : decode cX9_stepped 47 = .ok (.iadd, 1) := by decide +kernel
theorem dX9_stepped_48 : decode cX9_stepped 48 = .ok (.istore 4, 2) := by decide +kernel
theorem dX9_stepped_50 : decode cX9_stepped 50 = .ok (.aload_n 0, 1) := by decide +kernel
theorem dX9_stepped_51 : decode cX9_stepped 51 = .ok (.iload_n 3, 1) := by decide +kernel
theorem dX9_stepped_52 : decode cX9_stepped 52 = .ok (.iload 4, 2) := by decide +kernel
theorem dX9_stepped_54 : decode cX9_stepped 54 = .ok (.invokevirtual 73, 3) := by decide +kernel
theorem dX9_stepped_57 : decode cX9_stepped 57 = .ok (.ifCond .eq 13, 3) := by decide +kernel
theorem dX9_stepped_60 : decode cX9_stepped 60 = .ok (.bipush 16, 2) := by decide +kernel
theorem dX9_stepped_62 : decode cX9_stepped 62 = .ok (.iload_n 3, 1) := by decide +kernel
theorem dX9_stepped_63 : decode cX9_stepped 63 = .ok (.imul, 1) := by decide +kernel
theorem dX9_stepped_64 : decode cX9_stepped 64 = .ok (.iload 4, 2) := by decide +kernel
theorem dX9_stepped_66 : decode cX9_stepped 66 = .ok (.iadd, 1) := by decide +kernel
theorem dX9_stepped_67 : decode cX9_stepped 67 = .ok (.goto 5, 3) := by decide +kernel
theorem dX9_stepped_70 : decode cX9_stepped 70 = .ok (.bipush (-5), 2) := by decide +kernel
theorem dX9_stepped_72 : decode cX9_stepped 72 = .ok (.ireturn, 1) := by decide +kernel
theorem dX9_spread_0 : decode cX9_spread 0 = .ok (.aload_n 0, 1) := by decide +kernel
theorem dX9_spread_1 : decode cX9_spread 1 = .ok (.getfield 77, 3) := by decide +kernel
theorem dX9_spread_4 : decode cX9_spread 4 = .ok (.istore_n 2, 1) := by decide +kernel
theorem dX9_spread_5 : decode cX9_spread 5 = .ok (.iconst 1, 1) := by decide +kernel
theorem dX9_spread_6 : decode cX9_spread 6 = .ok (.istore_n 3, 1) := by decide +kernel
theorem dX9_spread_7 : decode cX9_spread 7 = .ok (.aload_n 0, 1) := by decide +kernel
theorem dX9_spread_8 : decode cX9_spread 8 = .ok (.dup, 1) := by decide +kernel
theorem dX9_spread_9 : decode cX9_spread 9 = .ok (.getfield 77, 3) := by decide +kernel
theorem dX9_spread_12 : decode cX9_spread 12 = .ok (.iconst 1, 1) := by decide +kernel
theorem dX9_spread_13 : decode cX9_spread 13 = .ok (.iadd, 1) := by decide +kernel
theorem dX9_spread_14 : decode cX9_spread 14 = .ok (.putfield 77, 3) := by decide +kernel
theorem dX9_spread_17 : decode cX9_spread 17 = .ok (.aload_n 0, 1) := by decide +kernel
theorem dX9_spread_18 : decode cX9_spread 18 = .ok (.getfield 29, 3) := by decide +kernel
theorem dX9_spread_21 : decode cX9_spread 21 = .ok (.iload_n 2, 1) := by decide +kernel
theorem dX9_spread_22 : decode cX9_spread 22 = .ok (.iconst 0, 1) := by decide +kernel
theorem dX9_spread_23 : decode cX9_spread 23 = .ok (.iastore, 1) := by decide +kernel
theorem dX9_spread_24 : decode cX9_spread 24 = .ok (.aload_n 0, 1) := by decide +kernel
theorem dX9_spread_25 : decode cX9_spread 25 = .ok (.getfield 32, 3) := by decide +kernel
theorem dX9_spread_28 : decode cX9_spread 28 = .ok (.iload_n 2, 1) := by decide +kernel
theorem dX9_spread_29 : decode cX9_spread 29 = .ok (.iconst 0, 1) := by decide +kernel
theorem dX9_spread_30 : decode cX9_spread 30 = .ok (.iastore, 1) := by decide +kernel
theorem dX9_spread_31 : decode cX9_spread 31 = .ok (.aload_n 0, 1) := by decide +kernel
theorem dX9_spread_32 : decode cX9_spread 32 = .ok (.getfield 38, 3) := by decide +kernel
theorem dX9_spread_35 : decode cX9_spread 35 = .ok (.iload_n 2, 1) := by decide +kernel
theorem dX9_spread_36 : decode cX9_spread 36 = .ok (.iconst 0, 1) := by decide +kernel
theorem dX9_spread_37 : decode cX9_spread 37 = .ok (.iastore, 1) := by decide +kernel
theorem dX9_spread_38 : decode cX9_spread 38 = .ok (.aload_n 0, 1) := by decide +kernel
theorem dX9_spread_39 : decode cX9_spread 39 = .ok (.getfield 35, 3) := by decide +kernel
theorem dX9_spread_42 : decode cX9_spread 42 = .ok (.iload_n 2, 1) := by decide +kernel
theorem dX9_spread_43 : decode cX9_spread 43 = .ok (.iload_n 1, 1) := by decide +kernel
theorem dX9_spread_44 : decode cX9_spread 44 = .ok (.iastore, 1) := by decide +kernel
theorem dX9_spread_45 : decode cX9_spread 45 = .ok (.aload_n 0, 1) := by decide +kernel
theorem dX9_spread_46 : decode cX9_spread 46 = .ok (.getfield 26, 3) := by decide +kernel
theorem dX9_spread_49 : decode cX9_spread 49 = .ok (.iload_n 1, 1) := by decide +kernel
theorem dX9_spread_50 : decode cX9_spread 50 = .ok (.iload_n 2, 1) := by decide +kernel
theorem dX9_spread_51 : decode cX9_spread 51 = .ok (.iastore, 1) := by decide +kernel
theorem dX9_spread_52 : decode cX9_spread 52 = .ok (.aload_n 0, 1) := by decide +kernel
theorem dX9_spread_53 : decode cX9_spread 53 = .ok (.getfield 41, 3) := by decide +kernel
theorem dX9_spread_56 : decode cX9_spread 56 = .ok (.iconst 0, 1) := by decide +kernel
theorem dX9_spread_57 : decode cX9_spread 57 = .ok (.iload_n 1, 1) := by decide +kernel
theorem dX9_spread_58 : decode cX9_spread 58 = .ok (.iastore, 1) := by decide +kernel
theorem dX9_spread_59 : decode cX9_spread 59 = .ok (.iload_n 3, 1) := by decide +kernel
theorem dX9_spread_60 : decode cX9_spread 60 = .ok (.ifCond .le 150, 3) := by decide +kernel
theorem dX9_spread_63 : decode cX9_spread 63 = .ok (.iinc 3 (-1), 3) := by decide +kernel
theorem dX9_spread_66 : decode cX9_spread 66 = .ok (.aload_n 0, 1) := by decide +kernel
theorem dX9_spread_67 : decode cX9_spread 67 = .ok (.getfield 41, 3) := by decide +kernel
theorem dX9_spread_70 : decode cX9_spread 70 = .ok (.iload_n 3, 1) := by decide +kernel
theorem dX9_spread_71 : decode cX9_spread 71 = .ok (.iaload, 1) := by decide +kernel
theorem dX9_spread_72 : decode cX9_spread 72 = .ok (.istore 4, 2) := by decide +kernel
theorem dX9_spread_74 : decode cX9_spread 74 = .ok (.aload_n 0, 1) := by decide +kernel
theorem dX9_spread_75 : decode cX9_spread 75 = .ok (.getfield 7, 3) := by decide +kernel
theorem dX9_spread_78 : decode cX9_spread 78 = .ok (.bipush 9, 2) := by decide +kernel
theorem dX9_spread_80 : decode cX9_spread 80 = .ok (.iload 4, 2) := by decide +kernel
theorem dX9_spread_82 : decode cX9_spread 82 = .ok (.iadd, 1) := by decide +kernel
theorem dX9_spread_83 : decode cX9_spread 83 = .ok (.iaload, 1) := by decide +kernel
theorem dX9_spread_84 : decode cX9_spread 84 = .ok (.istore 5, 2) := by decide +kernel
theorem dX9_spread_86 : decode cX9_spread 86 = .ok (.aload_n 0, 1) := by decide +kernel
theorem dX9_spread_87 : decode cX9_spread 87 = .ok (.getfield 29, 3) := by decide +kernel
theorem dX9_spread_90 : decode cX9_spread 90 = .ok (.iload_n 2, 1) := by decide +kernel
theorem dX9_spread_91 : decode cX9_spread 91 = .ok (.dup2, 1) := by decide +kernel
theorem dX9_spread_92 : decode cX9_spread 92 = .ok (.iaload, 1) := by decide +kernel
theorem dX9_spread_93 : decode cX9_spread 93 = .ok (.iload 5, 2) := by decide +kernel
theorem dX9_spread_95 : decode cX9_spread 95 = .ok (.iadd, 1) := by decide +kernel
theorem dX9_spread_96 : decode cX9_spread 96 = .ok (.iastore, 1) := by decide +kernel
theorem dX9_spread_97 : decode cX9_spread 97 = .ok (.aload_n 0, 1) := by decide +kernel
theorem dX9_spread_98 : decode cX9_spread 98 = .ok (.getfield 32, 3) := by decide +kernel
theorem dX9_spread_101 : decode cX9_spread 101 = .ok (.iload_n 2, 1) := by decide +kernel
theorem dX9_spread_102 : decode cX9_spread 102 = .ok (.dup2, 1) := by decide +kernel
theorem dX9_spread_103 : decode cX9_spread 103 = .ok (.iaload, 1) := by decide +kernel
theorem dX9_spread_104 : decode cX9_spread 104 = .ok (.iconst 1, 1) := by decide +kernel
theorem dX9_spread_105 : decode cX9_spread 105 = .ok (.iadd, 1) := by decide +kernel
theorem dX9_spread_106 : decode cX9_spread 106 = .ok (.iastore, 1) := by decide +kernel
theorem dX9_spread_107 : decode cX9_spread 107 = .ok (.aload_n 0, 1) := by decide +kernel
theorem dX9_spread_108 : decode cX9_spread 108 = .ok (.getfield 38, 3) := by decide +kernel
theorem dX9_spread_111 : decode cX9_spread 111 = .ok (.iload_n 2, 1) := by decide +kernel
theorem dX9_spread_112 : decode cX9_spread 112 = .ok (.iload 5, 2) := by decide +kernel
theorem dX9_spread_114 : decode cX9_spread 114 = .ok (.aload_n 0, 1) := by decide +kernel
theorem dX9_spread_115 : decode cX9_spread 115 = .ok (.getfield 38, 3) := by decide +kernel
theorem dX9_spread_118 : decode cX9_spread 118 = .ok (.iload_n 2, 1) := by decide +kernel
theorem dX9_spread_119 : decode cX9_spread 119 = .ok (.iaload, 1) := by decide +kernel
theorem dX9_spread_120 : decode cX9_spread 120 = .ok (.if_icmp .le 8, 3) := by decide +kernel
theorem dX9_spread_123 : decode cX9_spread 123 = .ok (.iload 5, 2) := by decide +kernel
theorem dX9_spread_125 : decode cX9_spread 125 = .ok (.goto 9, 3) := by decide +kernel
theorem dX9_spread_128 : decode cX9_spread 128 = .ok (.aload_n 0, 1) := by decide +kernel
theorem dX9_spread_129 : decode cX9_spread 129 = .ok (.getfield 38, 3) := by decide +kernel
theorem dX9_spread_132 : decode cX9_spread 132 = .ok (.iload_n 2, 1) := by decide +kernel
theorem dX9_spread_133 : decode cX9_spread 133 = .ok (.iaload, 1) := by decide +kernel
theorem dX9_spread_134 : decode cX9_spread 134 = .ok (.iastore, 1) := by decide +kernel
theorem dX9_spread_135 : decode cX9_spread 135 = .ok (.iconst 0, 1) := by decide +kernel
theorem dX9_spread_136 : decode cX9_spread 136 = .ok (.istore 6, 2) := by decide +kernel
theorem dX9_spread_138 : decode cX9_spread 138 = .ok (.iload 6, 2) := by decide +kernel
theorem dX9_spread_140 : decode cX9_spread 140 = .ok (.iconst 4, 1) := by decide +kernel
theorem dX9_spread_141 : decode cX9_spread 141 = .ok (.if_icmp .ge 66, 3) := by decide +kernel
theorem dX9_spread_144 : decode cX9_spread 144 = .ok (.aload_n 0, 1) := by decide +kernel
theorem dX9_spread_145 : decode cX9_spread 145 = .ok (.iload 4, 2) := by decide +kernel
theorem dX9_spread_147 : decode cX9_spread 147 = .ok (.iload 6, 2) := by decide +kernel
theorem dX9_spread_149 : decode cX9_spread 149 = .ok (.invokevirtual 80, 3) := by decide +kernel
theorem dX9_spread_152 : decode cX9_spread 152 = .ok (.istore 7, 2) := by decide +kernel
theorem dX9_spread_154 : decode cX9_spread 154 = .ok (.iload 7, 2) := by decide +kernel
theorem dX9_spread_156 : decode cX9_spread 156 = .ok (.ifCond .lt 45, 3) := by decide +kernel
theorem dX9_spread_159 : decode cX9_spread 159 = .ok (.aload_n 0, 1) := by decide +kernel
theorem dX9_spread_160 : decode cX9_spread 160 = .ok (.getfield 7, 3) := by decide +kernel
theorem dX9_spread_163 : decode cX9_spread 163 = .ok (.bipush 9, 2) := by decide +kernel
theorem dX9_spread_165 : decode cX9_spread 165 = .ok (.iload 7, 2) := by decide +kernel
theorem dX9_spread_167 : decode cX9_spread 167 = .ok (.iadd, 1) := by decide +kernel
theorem dX9_spread_168 : decode cX9_spread 168 = .ok (.iaload, 1) := by decide +kernel
theorem dX9_spread_169 : decode cX9_spread 169 = .ok (.ifCond .le 32, 3) := by decide +kernel
theorem dX9_spread_172 : decode cX9_spread 172 = .ok (.aload_n 0, 1) := by decide +kernel
theorem dX9_spread_173 : decode cX9_spread 173 = .ok (.getfield 26, 3) := by decide +kernel
theorem dX9_spread_176 : decode cX9_spread 176 = .ok (.iload 7, 2) := by decide +kernel
theorem dX9_spread_178 : decode cX9_spread 178 = .ok (.iaload, 1) := by decide +kernel
theorem dX9_spread_179 : decode cX9_spread 179 = .ok (.ifCond .ge 22, 3) := by decide +kernel
theorem dX9_spread_182 : decode cX9_spread 182 = .ok (.aload_n 0, 1) := by decide +kernel
theorem dX9_spread_183 : decode cX9_spread 183 = .ok (.getfield 26, 3) := by decide +kernel
theorem dX9_spread_186 : decode cX9_spread 186 = .ok (.iload 7, 2) := by decide +kernel
theorem dX9_spread_188 : decode cX9_spread 188 = .ok (.iload_n 2, 1) := by decide +kernel
theorem dX9_spread_189 : decode cX9_spread 189 = .ok (.iastore, 1) := by decide +kernel
theorem dX9_spread_190 : decode cX9_spread 190 = .ok (.aload_n 0, 1) := by decide +kernel
theorem dX9_spread_191 : decode cX9_spread 191 = .ok (.getfield 41, 3) := by decide +kernel
theorem dX9_spread_194 : decode cX9_spread 194 = .ok (.iload_n 3, 1) := by decide +kernel
theorem dX9_spread_195 : decode cX9_spread 195 = .ok (.iload 7, 2) := by decide +kernel
theorem dX9_spread_197 : decode cX9_spread 197 = .ok (.iastore, 1) := by decide +kernel
theorem dX9_spread_198 : decode cX9_spread 198 = .ok (.iinc 3 1, 3) := by decide +kernel
theorem dX9_spread_201 : decode cX9_spread 201 = .ok (.iinc 6 1, 3) := by decide +kernel
theorem dX9_spread_204 : decode cX9_spread 204 = .ok (.goto (-66), 3) := by decide +kernel
theorem dX9_spread_207 : decode cX9_spread 207 = .ok (.goto (-148), 3) := by decide +kernel
theorem dX9_spread_210 : decode cX9_spread 210 = .ok (.return_, 1) := by decide +kernel
theorem dX9_findHeaps_0 : decode cX9_findHeaps 0 = .ok (.aload_n 0, 1) := by decide +kernel
theorem dX9_findHeaps_1 : decode cX9_findHeaps 1 = .ok (.iconst 0, 1) := by decide +kernel
theorem dX9_findHeaps_2 : decode cX9_findHeaps 2 = .ok (.putfield 77, 3) := by decide +kernel
theorem dX9_findHeaps_5 : decode cX9_findHeaps 5 = .ok (.iconst 0, 1) := by decide +kernel
theorem dX9_findHeaps_6 : decode cX9_findHeaps 6 = .ok (.istore_n 1, 1) := by decide +kernel
theorem dX9_findHeaps_7 : decode cX9_findHeaps 7 = .ok (.iload_n 1, 1) := by decide +kernel
theorem dX9_findHeaps_8 : decode cX9_findHeaps 8 = .ok (.sipush 256, 3) := by decide +kernel
theorem dX9_findHeaps_11 : decode cX9_findHeaps 11 = .ok (.if_icmp .ge 17, 3) := by decide +kernel
theorem dX9_findHeaps_14 : decode cX9_findHeaps 14 = .ok (.aload_n 0, 1) := by decide +kernel
theorem dX9_findHeaps_15 : decode cX9_findHeaps 15 = .ok (.getfield 26, 3) := by decide +kernel
theorem dX9_findHeaps_18 : decode cX9_findHeaps 18 = .ok (.iload_n 1, 1) := by decide +kernel
theorem dX9_findHeaps_19 : decode cX9_findHeaps 19 = .ok (.bipush (-5), 2) := by decide +kernel
theorem dX9_findHeaps_21 : decode cX9_findHeaps 21 = .ok (.iastore, 1) := by decide +kernel
theorem dX9_findHeaps_22 : decode cX9_findHeaps 22 = .ok (.iinc 1 1, 3) := by decide +kernel
theorem dX9_findHeaps_25 : decode cX9_findHeaps 25 = .ok (.goto (-18), 3) := by decide +kernel
theorem dX9_findHeaps_28 : decode cX9_findHeaps 28 = .ok (.iconst 0, 1) := by decide +kernel
theorem dX9_findHeaps_29 : decode cX9_findHeaps 29 = .ok (.istore_n 1, 1) := by decide +kernel
theorem dX9_findHeaps_30 : decode cX9_findHeaps 30 = .ok (.iload_n 1, 1) := by decide +kernel
theorem dX9_findHeaps_31 : decode cX9_findHeaps 31 = .ok (.aload_n 0, 1) := by decide +kernel
theorem dX9_findHeaps_32 : decode cX9_findHeaps 32 = .ok (.getfield 7, 3) := by decide +kernel
theorem dX9_findHeaps_35 : decode cX9_findHeaps 35 = .ok (.iconst 0, 1) := by decide +kernel
theorem dX9_findHeaps_36 : decode cX9_findHeaps 36 = .ok (.iaload, 1) := by decide +kernel
theorem dX9_findHeaps_37 : decode cX9_findHeaps 37 = .ok (.if_icmp .ge 68, 3) := by decide +kernel
theorem dX9_findHeaps_40 : decode cX9_findHeaps 40 = .ok (.iconst 0, 1) := by decide +kernel
theorem dX9_findHeaps_41 : decode cX9_findHeaps 41 = .ok (.istore_n 2, 1) := by decide +kernel
theorem dX9_findHeaps_42 : decode cX9_findHeaps 42 = .ok (.iload_n 2, 1) := by decide +kernel
theorem dX9_findHeaps_43 : decode cX9_findHeaps 43 = .ok (.aload_n 0, 1) := by decide +kernel
theorem dX9_findHeaps_44 : decode cX9_findHeaps 44 = .ok (.getfield 7, 3) := by decide +kernel
theorem dX9_findHeaps_47 : decode cX9_findHeaps 47 = .ok (.iconst 1, 1) := by decide +kernel
theorem dX9_findHeaps_48 : decode cX9_findHeaps 48 = .ok (.iaload, 1) := by decide +kernel
theorem dX9_findHeaps_49 : decode cX9_findHeaps 49 = .ok (.if_icmp .ge 50, 3) := by decide +kernel
theorem dX9_findHeaps_52 : decode cX9_findHeaps 52 = .ok (.aload_n 0, 1) := by decide +kernel
theorem dX9_findHeaps_53 : decode cX9_findHeaps 53 = .ok (.getfield 7, 3) := by decide +kernel
theorem dX9_findHeaps_56 : decode cX9_findHeaps 56 = .ok (.bipush 9, 2) := by decide +kernel
theorem dX9_findHeaps_58 : decode cX9_findHeaps 58 = .ok (.bipush 16, 2) := by decide +kernel
theorem dX9_findHeaps_60 : decode cX9_findHeaps 60 = .ok (.iload_n 1, 1) := by decide +kernel
theorem dX9_findHeaps_61 : decode cX9_findHeaps 61 = .ok (.imul, 1) := by decide +kernel
theorem dX9_findHeaps_62 : decode cX9_findHeaps 62 = .ok (.iadd, 1) := by decide +kernel
theorem dX9_findHeaps_63 : decode cX9_findHeaps 63 = .ok (.iload_n 2, 1) := by decide +kernel
theorem dX9_findHeaps_64 : decode cX9_findHeaps 64 = .ok (.iadd, 1) := by decide +kernel
theorem dX9_findHeaps_65 : decode cX9_findHeaps 65 = .ok (.iaload, 1) := by decide +kernel
theorem dX9_findHeaps_66 : decode cX9_findHeaps 66 = .ok (.ifCond .le 27, 3) := by decide +kernel
theorem dX9_findHeaps_69 : decode cX9_findHeaps 69 = .ok (.aload_n 0, 1) := by decide +kernel
theorem dX9_findHeaps_70 : decode cX9_findHeaps 70 = .ok (.getfield 26, 3) := by decide +kernel
theorem dX9_findHeaps_73 : decode cX9_findHeaps 73 = .ok (.bipush 16, 2) := by decide +kernel
theorem dX9_findHeaps_75 : decode cX9_findHeaps 75 = .ok (.iload_n 1, 1) := by decide +kernel
theorem dX9_findHeaps_76 : decode cX9_findHeaps 76 = .ok (.imul, 1) := by decide +kernel
theorem dX9_findHeaps_77 : decode cX9_findHeaps 77 = .ok (.iload_n 2, 1) := by decide +kernel
theorem dX9_findHeaps_78 : decode cX9_findHeaps 78 = .ok (.iadd, 1) := by decide +kernel
theorem dX9_findHeaps_79 : decode cX9_findHeaps 79 = .ok (.iaload, 1) := by decide +kernel
theorem dX9_findHeaps_80 : decode cX9_findHeaps 80 = .ok (.ifCond .ge 13, 3) := by decide +kernel
theorem dX9_findHeaps_83 : decode cX9_findHeaps 83 = .ok (.aload_n 0, 1) := by decide +kernel
theorem dX9_findHeaps_84 : decode cX9_findHeaps 84 = .ok (.bipush 16, 2) := by decide +kernel
theorem dX9_findHeaps_86 : decode cX9_findHeaps 86 = .ok (.iload_n 1, 1) := by decide +kernel
theorem dX9_findHeaps_87 : decode cX9_findHeaps 87 = .ok (.imul, 1) := by decide +kernel
theorem dX9_findHeaps_88 : decode cX9_findHeaps 88 = .ok (.iload_n 2, 1) := by decide +kernel
theorem dX9_findHeaps_89 : decode cX9_findHeaps 89 = .ok (.iadd, 1) := by decide +kernel
theorem dX9_findHeaps_90 : decode cX9_findHeaps 90 = .ok (.invokevirtual 84, 3) := by decide +kernel
theorem dX9_findHeaps_93 : decode cX9_findHeaps 93 = .ok (.iinc 2 1, 3) := by decide +kernel
theorem dX9_findHeaps_96 : decode cX9_findHeaps 96 = .ok (.goto (-54), 3) := by decide +kernel
theorem dX9_findHeaps_99 : decode cX9_findHeaps 99 = .ok (.iinc 1 1, 3) := by decide +kernel
theorem dX9_findHeaps_102 : decode cX9_findHeaps 102 = .ok (.goto (-72), 3) := by decide +kernel
theorem dX9_findHeaps_105 : decode cX9_findHeaps 105 = .ok (.return_, 1) := by decide +kernel
theorem dX9_isAhead_0 : decode cX9_isAhead 0 = .ok (.aload_n 0, 1) := by decide +kernel
theorem dX9_isAhead_1 : decode cX9_isAhead 1 = .ok (.getfield 29, 3) := by decide +kernel
theorem dX9_isAhead_4 : decode cX9_isAhead 4 = .ok (.iload_n 1, 1) := by decide +kernel
theorem dX9_isAhead_5 : decode cX9_isAhead 5 = .ok (.iaload, 1) := by decide +kernel
theorem dX9_isAhead_6 : decode cX9_isAhead 6 = .ok (.aload_n 0, 1) := by decide +kernel
theorem dX9_isAhead_7 : decode cX9_isAhead 7 = .ok (.getfield 29, 3) := by decide +kernel
theorem dX9_isAhead_10 : decode cX9_isAhead 10 = .ok (.iload_n 2, 1) := by decide +kernel
theorem dX9_isAhead_11 : decode cX9_isAhead 11 = .ok (.iaload, 1) := by decide +kernel
theorem dX9_isAhead_12 : decode cX9_isAhead 12 = .ok (.if_icmp .eq 24, 3) := by decide +kernel
theorem dX9_isAhead_15 : decode cX9_isAhead 15 = .ok (.aload_n 0, 1) := by decide +kernel
theorem dX9_isAhead_16 : decode cX9_isAhead 16 = .ok (.getfield 29, 3) := by decide +kernel
theorem dX9_isAhead_19 : decode cX9_isAhead 19 = .ok (.iload_n 1, 1) := by decide +kernel
theorem dX9_isAhead_20 : decode cX9_isAhead 20 = .ok (.iaload, 1) := by decide +kernel
theorem dX9_isAhead_21 : decode cX9_isAhead 21 = .ok (.aload_n 0, 1) := by decide +kernel
theorem dX9_isAhead_22 : decode cX9_isAhead 22 = .ok (.getfield 29, 3) := by decide +kernel
theorem dX9_isAhead_25 : decode cX9_isAhead 25 = .ok (.iload_n 2, 1) := by decide +kernel
theorem dX9_isAhead_26 : decode cX9_isAhead 26 = .ok (.iaload, 1) := by decide +kernel
theorem dX9_isAhead_27 : decode cX9_isAhead 27 = .ok (.if_icmp .le 7, 3) := by decide +kernel
theorem dX9_isAhead_30 : decode cX9_isAhead 30 = .ok (.iconst 1, 1) := by decide +kernel
theorem dX9_isAhead_31 : decode cX9_isAhead 31 = .ok (.goto 4, 3) := by decide +kernel
theorem dX9_isAhead_34 : decode cX9_isAhead 34 = .ok (.iconst 0, 1) := by decide +kernel
theorem dX9_isAhead_35 : decode cX9_isAhead 35 = .ok (.ireturn, 1) := by decide +kernel
theorem dX9_isAhead_36 : decode cX9_isAhead 36 = .ok (.aload_n 0, 1) := by decide +kernel
theorem dX9_isAhead_37 : decode cX9_isAhead 37 = .ok (.getfield 32, 3) := by decide +kernel
theorem dX9_isAhead_40 : decode cX9_isAhead 40 = .ok (.iload_n 1, 1) := by decide +kernel
theorem dX9_isAhead_41 : decode cX9_isAhead 41 = .ok (.iaload, 1) := by decide +kernel
theorem dX9_isAhead_42 : decode cX9_isAhead 42 = .ok (.aload_n 0, 1) := by decide +kernel
theorem dX9_isAhead_43 : decode cX9_isAhead 43 = .ok (.getfield 32, 3) := by decide +kernel
theorem dX9_isAhead_46 : decode cX9_isAhead 46 = .ok (.iload_n 2, 1) := by decide +kernel
theorem dX9_isAhead_47 : decode cX9_isAhead 47 = .ok (.iaload, 1) := by decide +kernel
theorem dX9_isAhead_48 : decode cX9_isAhead 48 = .ok (.if_icmp .eq 26, 3) := by decide +kernel
theorem dX9_isAhead_51 : decode cX9_isAhead 51 = .ok (.aload_n 0, 1) := by decide +kernel
theorem dX9_isAhead_52 : decode cX9_isAhead 52 = .ok (.getfield 32, 3) := by decide +kernel
theorem dX9_isAhead_55 : decode cX9_isAhead 55 = .ok (.iload_n 1, 1) := by decide +kernel
theorem dX9_isAhead_56 : decode cX9_isAhead 56 = .ok (.iaload, 1) := by decide +kernel
theorem dX9_isAhead_57 : decode cX9_isAhead 57 = .ok (.aload_n 0, 1) := by decide +kernel
theorem dX9_isAhead_58 : decode cX9_isAhead 58 = .ok (.getfield 32, 3) := by decide +kernel
theorem dX9_isAhead_61 : decode cX9_isAhead 61 = .ok (.iload_n 2, 1) := by decide +kernel
theorem dX9_isAhead_62 : decode cX9_isAhead 62 = .ok (.iaload, 1) := by decide +kernel
theorem dX9_isAhead_63 : decode cX9_isAhead 63 = .ok (.if_icmp .ge 7, 3) := by decide +kernel
theorem dX9_isAhead_66 : decode cX9_isAhead 66 = .ok (.iconst 1, 1) := by decide +kernel
theorem dX9_isAhead_67 : decode cX9_isAhead 67 = .ok (.goto 17, 3) := by decide +kernel
theorem dX9_isAhead_70 : decode cX9_isAhead 70 = .ok (.iconst 0, 1) := by decide +kernel
theorem dX9_isAhead_71 : decode cX9_isAhead 71 = .ok (.goto 13, 3) := by decide +kernel
theorem dX9_isAhead_74 : decode cX9_isAhead 74 = .ok (.iload_n 1, 1) := by decide +kernel
theorem dX9_isAhead_75 : decode cX9_isAhead 75 = .ok (.iload_n 2, 1) := by decide +kernel
theorem dX9_isAhead_76 : decode cX9_isAhead 76 = .ok (.if_icmp .ge 7, 3) := by decide +kernel
theorem dX9_isAhead_79 : decode cX9_isAhead 79 = .ok (.iconst 1, 1) := by decide +kernel
theorem dX9_isAhead_80 : decode cX9_isAhead 80 = .ok (.goto 4, 3) := by decide +kernel
theorem dX9_isAhead_83 : decode cX9_isAhead 83 = .ok (.iconst 0, 1) := by decide +kernel
theorem dX9_isAhead_84 : decode cX9_isAhead 84 = .ok (.ireturn, 1) := by decide +kernel
theorem dX9_placeOf_0 : decode cX9_placeOf 0 = .ok (.iconst 0, 1) := by decide +kernel
theorem dX9_placeOf_1 : decode cX9_placeOf 1 = .ok (.istore_n 2, 1) := by decide +kernel
theorem dX9_placeOf_2 : decode cX9_placeOf 2 = .ok (.iconst 0, 1) := by decide +kernel
theorem dX9_placeOf_3 : decode cX9_placeOf 3 = .ok (.istore_n 3, 1) := by decide +kernel
theorem dX9_placeOf_4 : decode cX9_placeOf 4 = .ok (.iload_n 3, 1) := by decide +kernel
theorem dX9_placeOf_5 : decode cX9_placeOf 5 = .ok (.aload_n 0, 1) := by decide +kernel
theorem dX9_placeOf_6 : decode cX9_placeOf 6 = .ok (.getfield 77, 3) := by decide +kernel
theorem dX9_placeOf_9 : decode cX9_placeOf 9 = .ok (.if_icmp .ge 31, 3) := by decide +kernel
theorem dX9_placeOf_12 : decode cX9_placeOf 12 = .ok (.iload_n 2, 1) := by decide +kernel
theorem dX9_placeOf_13 : decode cX9_placeOf 13 = .ok (.iload_n 3, 1) := by decide +kernel
theorem dX9_placeOf_14 : decode cX9_placeOf 14 = .ok (.iload_n 1, 1) := by decide +kernel
theorem dX9_placeOf_15 : decode cX9_placeOf 15 = .ok (.if_icmp .eq 16, 3) := by decide +kernel
theorem dX9_placeOf_18 : decode cX9_placeOf 18 = .ok (.aload_n 0, 1) := by decide +kernel
theorem dX9_placeOf_19 : decode cX9_placeOf 19 = .ok (.iload_n 3, 1) := by decide +kernel
theorem dX9_placeOf_20 : decode cX9_placeOf 20 = .ok (.iload_n 1, 1) := by decide +kernel
theorem dX9_placeOf_21 : decode cX9_placeOf 21 = .ok (.invokevirtual 88, 3) := by decide +kernel
theorem dX9_placeOf_24 : decode cX9_placeOf 24 = .ok (.ifCond .eq 7, 3) := by decide +kernel
theorem dX9_placeOf_27 : decode cX9_placeOf 27 = .ok (.iconst 1, 1) := by decide +kernel
theorem dX9_placeOf_28 : decode cX9_placeOf 28 = .ok (.goto 4, 3) := by decide +kernel
theorem dX9_placeOf_31 : decode cX9_placeOf 31 = .ok (.iconst 0, 1) := by decide +kernel
theorem dX9_placeOf_32 : decode cX9_placeOf 32 = .ok (.iadd, 1) := by decide +kernel
theorem dX9_placeOf_33 : decode cX9_placeOf 33 = .ok (.istore_n 2, 1) := by decide +kernel
theorem dX9_placeOf_34 : decode cX9_placeOf 34 = .ok (.iinc 3 1, 3) := by decide +kernel
theorem dX9_placeOf_37 : decode cX9_placeOf 37 = .ok (.goto (-33), 3) := by decide +kernel
theorem dX9_placeOf_40 : decode cX9_placeOf 40 = .ok (.iload_n 2, 1) := by decide +kernel
theorem dX9_placeOf_41 : decode cX9_placeOf 41 = .ok (.ireturn, 1) := by decide +kernel
theorem dX9_addWalker_0 : decode cX9_addWalker 0 = .ok (.aload_n 0, 1) := by decide +kernel
theorem dX9_addWalker_1 : decode cX9_addWalker 1 = .ok (.iload_n 1, 1) := by decide +kernel
theorem dX9_addWalker_2 : decode cX9_addWalker 2 = .ok (.iload_n 2, 1) := by decide +kernel
theorem dX9_addWalker_3 : decode cX9_addWalker 3 = .ok (.invokevirtual 73, 3) := by decide +kernel
theorem dX9_addWalker_6 : decode cX9_addWalker 6 = .ok (.ifCond .ne 5, 3) := by decide +kernel
theorem dX9_addWalker_9 : decode cX9_addWalker 9 = .ok (.iconst (-1), 1) := by decide +kernel
theorem dX9_addWalker_10 : decode cX9_addWalker 10 = .ok (.ireturn, 1) := by decide +kernel
theorem dX9_addWalker_11 : decode cX9_addWalker 11 = .ok (.iload_n 3, 1) := by decide +kernel
theorem dX9_addWalker_12 : decode cX9_addWalker 12 = .ok (.iconst 0, 1) := by decide +kernel
theorem dX9_addWalker_13 : decode cX9_addWalker 13 = .ok (.iconst 3, 1) := by decide +kernel
theorem dX9_addWalker_14 : decode cX9_addWalker 14 = .ok (.invokestatic 58, 3) := by decide +kernel
theorem dX9_addWalker_17 : decode cX9_addWalker 17 = .ok (.ifCond .eq 24, 3) := by decide +kernel
theorem dX9_addWalker_20 : decode cX9_addWalker 20 = .ok (.iload 4, 2) := by decide +kernel
theorem dX9_addWalker_22 : decode cX9_addWalker 22 = .ok (.iconst 0, 1) := by decide +kernel
theorem dX9_addWalker_23 : decode cX9_addWalker 23 = .ok (.iconst 2, 1) := by decide +kernel
theorem dX9_addWalker_24 : decode cX9_addWalker 24 = .ok (.invokestatic 58, 3) := by decide +kernel
theorem dX9_addWalker_27 : decode cX9_addWalker 27 = .ok (.ifCond .eq 14, 3) := by decide +kernel
theorem dX9_addWalker_30 : decode cX9_addWalker 30 = .ok (.iload 5, 2) := by decide +kernel
theorem dX9_addWalker_32 : decode cX9_addWalker 32 = .ok (.iconst 1, 1) := by decide +kernel
theorem dX9_addWalker_33 : decode cX9_addWalker 33 = .ok (.bipush 9, 2) := by decide +kernel
theorem dX9_addWalker_35 : decode cX9_addWalker 35 = .ok (.invokestatic 58, 3) := by decide +kernel
theorem dX9_addWalker_38 : decode cX9_addWalker 38 = .ok (.ifCond .ne 6, 3) := by decide +kernel
theorem dX9_addWalker_41 : decode cX9_addWalker 41 = .ok (.bipush (-2), 2) := by decide +kernel
theorem dX9_addWalker_43 : decode cX9_addWalker 43 = .ok (.ireturn, 1) := by decide +kernel
theorem dX9_addWalker_44 : decode cX9_addWalker 44 = .ok (.aload_n 0, 1) := by decide +kernel
theorem dX9_addWalker_45 : decode cX9_addWalker 45 = .ok (.getfield 7, 3) := by decide +kernel
theorem dX9_addWalker_48 : decode cX9_addWalker 48 = .ok (.iconst 2, 1) := by decide +kernel
theorem dX9_addWalker_49 : decode cX9_addWalker 49 = .ok (.iaload, 1) := by decide +kernel
theorem dX9_addWalker_50 : decode cX9_addWalker 50 = .ok (.bipush 8, 2) := by decide +kernel
theorem dX9_addWalker_52 : decode cX9_addWalker 52 = .ok (.if_icmp .ne 6, 3) := by decide +kernel
theorem dX9_addWalker_55 : decode cX9_addWalker 55 = .ok (.bipush (-3), 2) := by decide +kernel
theorem dX9_addWalker_57 : decode cX9_addWalker 57 = .ok (.ireturn, 1) := by decide +kernel
theorem dX9_addWalker_58 : decode cX9_addWalker 58 = .ok (.aload_n 0, 1) := by decide +kernel
theorem dX9_addWalker_59 : decode cX9_addWalker 59 = .ok (.invokevirtual 66, 3) := by decide +kernel
theorem dX9_addWalker_62 : decode cX9_addWalker 62 = .ok (.aload_n 0, 1) := by decide +kernel
theorem dX9_addWalker_63 : decode cX9_addWalker 63 = .ok (.getfield 7, 3) := by decide +kernel
theorem dX9_addWalker_66 : decode cX9_addWalker 66 = .ok (.iconst 2, 1) := by decide +kernel
theorem dX9_addWalker_67 : decode cX9_addWalker 67 = .ok (.iaload, 1) := by decide +kernel
theorem dX9_addWalker_68 : decode cX9_addWalker 68 = .ok (.istore 6, 2) := by decide +kernel
theorem dX9_addWalker_70 : decode cX9_addWalker 70 = .ok (.iconst 0, 1) := by decide +kernel
theorem dX9_addWalker_71 : decode cX9_addWalker 71 = .ok (.istore 7, 2) := by decide +kernel
theorem dX9_addWalker_73 : decode cX9_addWalker 73 = .ok (.iload 7, 2) := by decide +kernel
theorem dX9_addWalker_75 : decode cX9_addWalker 75 = .ok (.bipush 9, 2) := by decide +kernel
theorem dX9_addWalker_77 : decode cX9_addWalker 77 = .ok (.if_icmp .ge 18, 3) := by decide +kernel
theorem dX9_addWalker_80 : decode cX9_addWalker 80 = .ok (.aload_n 0, 1) := by decide +kernel
theorem dX9_addWalker_81 : decode cX9_addWalker 81 = .ok (.iload 6, 2) := by decide +kernel
theorem dX9_addWalker_83 : decode cX9_addWalker 83 = .ok (.iload 7, 2) := by decide +kernel
theorem dX9_addWalker_85 : decode cX9_addWalker 85 = .ok (.iconst 0, 1) := by decide +kernel
theorem dX9_addWalker_86 : decode cX9_addWalker 86 = .ok (.invokevirtual 91, 3) := by decide +kernel
theorem dX9_addWalker_89 : decode cX9_addWalker 89 = .ok (.iinc 7 1, 3) := by decide +kernel
theorem dX9_addWalker_92 : decode cX9_addWalker 92 = .ok (.goto (-19), 3) := by decide +kernel
theorem dX9_addWalker_95 : decode cX9_addWalker 95 = .ok (.aload_n 0, 1) := by decide +kernel
theorem dX9_addWalker_96 : decode cX9_addWalker 96 = .ok (.iload 6, 2) := by decide +kernel
theorem dX9_addWalker_98 : decode cX9_addWalker 98 = .ok (.iconst 0, 1) := by decide +kernel
theorem dX9_addWalker_99 : decode cX9_addWalker 99 = .ok (.iload_n 1, 1) := by decide +kernel
theorem dX9_addWalker_100 : decode cX9_addWalker 100 = .ok (.invokevirtual 91, 3) := by decide +kernel
theorem dX9_addWalker_103 : decode cX9_addWalker 103 = .ok (.aload_n 0, 1) := by decide +kernel
theorem dX9_addWalker_104 : decode cX9_addWalker 104 = .ok (.iload 6, 2) := by decide +kernel
theorem dX9_addWalker_106 : decode cX9_addWalker 106 = .ok (.iconst 1, 1) := by decide +kernel
theorem dX9_addWalker_107 : decode cX9_addWalker 107 = .ok (.iload_n 2, 1) := by decide +kernel
theorem dX9_addWalker_108 : decode cX9_addWalker 108 = .ok (.invokevirtual 91, 3) := by decide +kernel
theorem dX9_addWalker_111 : decode cX9_addWalker 111 = .ok (.aload_n 0, 1) := by decide +kernel
theorem dX9_addWalker_112 : decode cX9_addWalker 112 = .ok (.iload 6, 2) := by decide +kernel
theorem dX9_addWalker_114 : decode cX9_addWalker 114 = .ok (.iconst 2, 1) := by decide +kernel
theorem dX9_addWalker_115 : decode cX9_addWalker 115 = .ok (.iload_n 3, 1) := by decide +kernel
theorem dX9_addWalker_116 : decode cX9_addWalker 116 = .ok (.invokevirtual 91, 3) := by decide +kernel
theorem dX9_addWalker_119 : decode cX9_addWalker 119 = .ok (.aload_n 0, 1) := by decide +kernel
theorem dX9_addWalker_120 : decode cX9_addWalker 120 = .ok (.iload 6, 2) := by decide +kernel
theorem dX9_addWalker_122 : decode cX9_addWalker 122 = .ok (.iconst 5, 1) := by decide +kernel
theorem dX9_addWalker_123 : decode cX9_addWalker 123 = .ok (.iload 4, 2) := by decide +kernel
theorem dX9_addWalker_125 : decode cX9_addWalker 125 = .ok (.invokevirtual 91, 3) := by decide +kernel
theorem dX9_addWalker_128 : decode cX9_addWalker 128 = .ok (.aload_n 0, 1) := by decide +kernel
theorem dX9_addWalker_129 : decode cX9_addWalker 129 = .ok (.iload 6, 2) := by decide +kernel
theorem dX9_addWalker_131 : decode cX9_addWalker 131 = .ok (.iconst 4, 1) := by decide +kernel
theorem dX9_addWalker_132 : decode cX9_addWalker 132 = .ok (.iload 5, 2) := by decide +kernel
theorem dX9_addWalker_134 : decode cX9_addWalker 134 = .ok (.invokevirtual 91, 3) := by decide +kernel
theorem dX9_addWalker_137 : decode cX9_addWalker 137 = .ok (.aload_n 0, 1) := by decide +kernel
theorem dX9_addWalker_138 : decode cX9_addWalker 138 = .ok (.getfield 7, 3) := by decide +kernel
theorem dX9_addWalker_141 : decode cX9_addWalker 141 = .ok (.iconst 2, 1) := by decide +kernel
theorem dX9_addWalker_142 : decode cX9_addWalker 142 = .ok (.dup2, 1) := by decide +kernel
theorem dX9_addWalker_143 : decode cX9_addWalker 143 = .ok (.iaload, 1) := by decide +kernel
theorem dX9_addWalker_144 : decode cX9_addWalker 144 = .ok (.iconst 1, 1) := by decide +kernel
theorem dX9_addWalker_145 : decode cX9_addWalker 145 = .ok (.iadd, 1) := by decide +kernel
theorem dX9_addWalker_146 : decode cX9_addWalker 146 = .ok (.iastore, 1) := by decide +kernel
theorem dX9_addWalker_147 : decode cX9_addWalker 147 = .ok (.aload_n 0, 1) := by decide +kernel
theorem dX9_addWalker_148 : decode cX9_addWalker 148 = .ok (.iload 6, 2) := by decide +kernel
theorem dX9_addWalker_150 : decode cX9_addWalker 150 = .ok (.invokevirtual 69, 3) := by decide +kernel
theorem dX9_addWalker_153 : decode cX9_addWalker 153 = .ok (.ireturn, 1) := by decide +kernel
theorem dX9_setSort_0 : decode cX9_setSort 0 = .ok (.aload_n 0, 1) := by decide +kernel
theorem dX9_setSort_1 : decode cX9_setSort 1 = .ok (.iload_n 1, 1) := by decide +kernel
theorem dX9_setSort_2 : decode cX9_setSort 2 = .ok (.invokevirtual 95, 3) := by decide +kernel
theorem dX9_setSort_5 : decode cX9_setSort 5 = .ok (.ifCond .eq 5, 3) := by decide +kernel
theorem dX9_setSort_8 : decode cX9_setSort 8 = .ok (.iconst (-1), 1) := by decide +kernel
theorem dX9_setSort_9 : decode cX9_setSort 9 = .ok (.ireturn, 1) := by decide +kernel
theorem dX9_setSort_10 : decode cX9_setSort 10 = .ok (.iload_n 2, 1) := by decide +kernel
theorem dX9_setSort_11 : decode cX9_setSort 11 = .ok (.iconst 0, 1) := by decide +kernel
theorem dX9_setSort_12 : decode cX9_setSort 12 = .ok (.iconst 2, 1) := by decide +kernel
theorem dX9_setSort_13 : decode cX9_setSort 13 = .ok (.invokestatic 58, 3) := by decide +kernel
theorem dX9_setSort_16 : decode cX9_setSort 16 = .ok (.ifCond .ne 6, 3) := by decide +kernel
theorem dX9_setSort_19 : decode cX9_setSort 19 = .ok (.bipush (-2), 2) := by decide +kernel
theorem dX9_setSort_21 : decode cX9_setSort 21 = .ok (.ireturn, 1) := by decide +kernel
theorem dX9_setSort_22 : decode cX9_setSort 22 = .ok (.aload_n 0, 1) := by decide +kernel
theorem dX9_setSort_23 : decode cX9_setSort 23 = .ok (.invokevirtual 66, 3) := by decide +kernel
theorem dX9_setSort_26 : decode cX9_setSort 26 = .ok (.aload_n 0, 1) := by decide +kernel
theorem dX9_setSort_27 : decode cX9_setSort 27 = .ok (.iload_n 1, 1) := by decide +kernel
theorem dX9_setSort_28 : decode cX9_setSort 28 = .ok (.iconst 5, 1) := by decide +kernel
theorem dX9_setSort_29 : decode cX9_setSort 29 = .ok (.invokevirtual 99, 3) := by decide +kernel
theorem dX9_setSort_32 : decode cX9_setSort 32 = .ok (.istore_n 3, 1) := by decide +kernel
theorem dX9_setSort_33 : decode cX9_setSort 33 = .ok (.aload_n 0, 1) := by decide +kernel
theorem dX9_setSort_34 : decode cX9_setSort 34 = .ok (.iload_n 1, 1) := by decide +kernel
theorem dX9_setSort_35 : decode cX9_setSort 35 = .ok (.iconst 5, 1) := by decide +kernel
theorem dX9_setSort_36 : decode cX9_setSort 36 = .ok (.iload_n 2, 1) := by decide +kernel
theorem dX9_setSort_37 : decode cX9_setSort 37 = .ok (.invokevirtual 91, 3) := by decide +kernel
theorem dX9_setSort_40 : decode cX9_setSort 40 = .ok (.aload_n 0, 1) := by decide +kernel
theorem dX9_setSort_41 : decode cX9_setSort 41 = .ok (.iload_n 3, 1) := by decide +kernel
theorem dX9_setSort_42 : decode cX9_setSort 42 = .ok (.invokevirtual 69, 3) := by decide +kernel
theorem dX9_setSort_45 : decode cX9_setSort 45 = .ok (.ireturn, 1) := by decide +kernel
theorem dX9_cellOf_0 : decode cX9_cellOf 0 = .ok (.bipush 16, 2) := by decide +kernel
theorem dX9_cellOf_2 : decode cX9_cellOf 2 = .ok (.aload_n 0, 1) := by decide +kernel
theorem dX9_cellOf_3 : decode cX9_cellOf 3 = .ok (.iload_n 1, 1) := by decide +kernel
theorem dX9_cellOf_4 : decode cX9_cellOf 4 = .ok (.iconst 0, 1) := by decide +kernel
theorem dX9_cellOf_5 : decode cX9_cellOf 5 = .ok (.invokevirtual 99, 3) := by decide +kernel
theorem dX9_cellOf_8 : decode cX9_cellOf 8 = .ok (.imul, 1) := by decide +kernel
theorem dX9_cellOf_9 : decode cX9_cellOf 9 = .ok (.aload_n 0, 1) := by decide +kernel
theorem dX9_cellOf_10 : decode cX9_cellOf 10 = .ok (.iload_n 1, 1) := by decide +kernel
theorem dX9_cellOf_11 : decode cX9_cellOf 11 = .ok (.iconst 1, 1) := by decide +kernel
theorem dX9_cellOf_12 : decode cX9_cellOf 12 = .ok (.invokevirtual 99, 3) := by decide +kernel
theorem dX9_cellOf_15 : decode cX9_cellOf 15 = .ok (.iadd, 1) := by decide +kernel
theorem dX9_cellOf_16 : decode cX9_cellOf 16 = .ok (.ireturn, 1) := by decide +kernel
theorem dX9_pick_0 : decode cX9_pick 0 = .ok (.aload_n 0, 1) := by decide +kernel
theorem dX9_pick_1 : decode cX9_pick 1 = .ok (.getfield 7, 3) := by decide +kernel
theorem dX9_pick_4 : decode cX9_pick 4 = .ok (.bipush 9, 2) := by decide +kernel
theorem dX9_pick_6 : decode cX9_pick 6 = .ok (.aload_n 0, 1) := by decide +kernel
theorem dX9_pick_7 : decode cX9_pick 7 = .ok (.iload_n 1, 1) := by decide +kernel
theorem dX9_pick_8 : decode cX9_pick 8 = .ok (.invokevirtual 102, 3) := by decide +kernel
theorem dX9_pick_11 : decode cX9_pick 11 = .ok (.iadd, 1) := by decide +kernel
theorem dX9_pick_12 : decode cX9_pick 12 = .ok (.dup2, 1) := by decide +kernel
theorem dX9_pick_13 : decode cX9_pick 13 = .ok (.iaload, 1) := by decide +kernel
theorem dX9_pick_14 : decode cX9_pick 14 = .ok (.iload_n 2, 1) := by decide +kernel
theorem dX9_pick_15 : decode cX9_pick 15 = .ok (.isub, 1) := by decide +kernel
theorem dX9_pick_16 : decode cX9_pick 16 = .ok (.iastore, 1) := by decide +kernel
theorem dX9_pick_17 : decode cX9_pick 17 = .ok (.aload_n 0, 1) := by decide +kernel
theorem dX9_pick_18 : decode cX9_pick 18 = .ok (.iload_n 1, 1) := by decide +kernel
theorem dX9_pick_19 : decode cX9_pick 19 = .ok (.iconst 3, 1) := by decide +kernel
theorem dX9_pick_20 : decode cX9_pick 20 = .ok (.aload_n 0, 1) := by decide +kernel
theorem dX9_pick_21 : decode cX9_pick 21 = .ok (.iload_n 1, 1) := by decide +kernel
theorem dX9_pick_22 : decode cX9_pick 22 = .ok (.iconst 3, 1) := by decide +kernel
theorem dX9_pick_23 : decode cX9_pick 23 = .ok (.invokevirtual 99, 3) := by decide +kernel
theorem dX9_pick_26 : decode cX9_pick 26 = .ok (.iload_n 2, 1) := by decide +kernel
theorem dX9_pick_27 : decode cX9_pick 27 = .ok (.iadd, 1) := by decide +kernel
theorem dX9_pick_28 : decode cX9_pick 28 = .ok (.invokevirtual 91, 3) := by decide +kernel
theorem dX9_pick_31 : decode cX9_pick 31 = .ok (.aload_n 0, 1) := by decide +kernel
theorem dX9_pick_32 : decode cX9_pick 32 = .ok (.iload_n 1, 1) := by decide +kernel
theorem dX9_pick_33 : decode cX9_pick 33 = .ok (.bipush 7, 2) := by decide +kernel
theorem dX9_pick_35 : decode cX9_pick 35 = .ok (.aload_n 0, 1) := by decide +kernel
theorem dX9_pick_36 : decode cX9_pick 36 = .ok (.iload_n 1, 1) := by decide +kernel
theorem dX9_pick_37 : decode cX9_pick 37 = .ok (.bipush 7, 2) := by decide +kernel
theorem dX9_pick_39 : decode cX9_pick 39 = .ok (.invokevirtual 99, 3) := by decide +kernel
theorem dX9_pick_42 : decode cX9_pick 42 = .ok (.iload_n 2, 1) := by decide +kernel
theorem dX9_pick_43 : decode cX9_pick 43 = .ok (.iadd, 1) := by decide +kernel
theorem dX9_pick_44 : decode cX9_pick 44 = .ok (.invokevirtual 91, 3) := by decide +kernel
theorem dX9_pick_47 : decode cX9_pick 47 = .ok (.return_, 1) := by decide +kernel
theorem dX9_drop_0 : decode cX9_drop 0 = .ok (.aload_n 0, 1) := by decide +kernel
theorem dX9_drop_1 : decode cX9_drop 1 = .ok (.getfield 7, 3) := by decide +kernel
theorem dX9_drop_4 : decode cX9_drop 4 = .ok (.bipush 9, 2) := by decide +kernel
theorem dX9_drop_6 : decode cX9_drop 6 = .ok (.aload_n 0, 1) := by decide +kernel
theorem dX9_drop_7 : decode cX9_drop 7 = .ok (.iload_n 1, 1) := by decide +kernel
theorem dX9_drop_8 : decode cX9_drop 8 = .ok (.invokevirtual 102, 3) := by decide +kernel
theorem dX9_drop_11 : decode cX9_drop 11 = .ok (.iadd, 1) := by decide +kernel
theorem dX9_drop_12 : decode cX9_drop 12 = .ok (.dup2, 1) := by decide +kernel
theorem dX9_drop_13 : decode cX9_drop 13 = .ok (.iaload, 1) := by decide +kernel
theorem dX9_drop_14 : decode cX9_drop 14 = .ok (.iload_n 2, 1) := by decide +kernel
theorem dX9_drop_15 : decode cX9_drop 15 = .ok (.iadd, 1) := by decide +kernel
theorem dX9_drop_16 : decode cX9_drop 16 = .ok (.iastore, 1) := by decide +kernel
theorem dX9_drop_17 : decode cX9_drop 17 = .ok (.aload_n 0, 1) := by decide +kernel
theorem dX9_drop_18 : decode cX9_drop 18 = .ok (.iload_n 1, 1) := by decide +kernel
theorem dX9_drop_19 : decode cX9_drop 19 = .ok (.iconst 3, 1) := by decide +kernel
theorem dX9_drop_20 : decode cX9_drop 20 = .ok (.aload_n 0, 1) := by decide +kernel
theorem dX9_drop_21 : decode cX9_drop 21 = .ok (.iload_n 1, 1) := by decide +kernel
theorem dX9_drop_22 : decode cX9_drop 22 = .ok (.iconst 3, 1) := by decide +kernel
theorem dX9_drop_23 : decode cX9_drop 23 = .ok (.invokevirtual 99, 3) := by decide +kernel
theorem dX9_drop_26 : decode cX9_drop 26 = .ok (.iload_n 2, 1) := by decide +kernel
theorem dX9_drop_27 : decode cX9_drop 27 = .ok (.isub, 1) := by decide +kernel
theorem dX9_drop_28 : decode cX9_drop 28 = .ok (.invokevirtual 91, 3) := by decide +kernel
theorem dX9_drop_31 : decode cX9_drop 31 = .ok (.aload_n 0, 1) := by decide +kernel
theorem dX9_drop_32 : decode cX9_drop 32 = .ok (.iload_n 1, 1) := by decide +kernel
theorem dX9_drop_33 : decode cX9_drop 33 = .ok (.bipush 8, 2) := by decide +kernel
theorem dX9_drop_35 : decode cX9_drop 35 = .ok (.aload_n 0, 1) := by decide +kernel
theorem dX9_drop_36 : decode cX9_drop 36 = .ok (.iload_n 1, 1) := by decide +kernel
theorem dX9_drop_37 : decode cX9_drop 37 = .ok (.bipush 8, 2) := by decide +kernel
theorem dX9_drop_39 : decode cX9_drop 39 = .ok (.invokevirtual 99, 3) := by decide +kernel
theorem dX9_drop_42 : decode cX9_drop 42 = .ok (.iload_n 2, 1) := by decide +kernel
theorem dX9_drop_43 : decode cX9_drop 43 = .ok (.iadd, 1) := by decide +kernel
theorem dX9_drop_44 : decode cX9_drop 44 = .ok (.invokevirtual 91, 3) := by decide +kernel
theorem dX9_drop_47 : decode cX9_drop 47 = .ok (.return_, 1) := by decide +kernel
theorem dX9_empty_0 : decode cX9_empty 0 = .ok (.aload_n 0, 1) := by decide +kernel
theorem dX9_empty_1 : decode cX9_empty 1 = .ok (.iload_n 1, 1) := by decide +kernel
theorem dX9_empty_2 : decode cX9_empty 2 = .ok (.invokevirtual 95, 3) := by decide +kernel
theorem dX9_empty_5 : decode cX9_empty 5 = .ok (.ifCond .eq 5, 3) := by decide +kernel
theorem dX9_empty_8 : decode cX9_empty 8 = .ok (.iconst (-1), 1) := by decide +kernel
theorem dX9_empty_9 : decode cX9_empty 9 = .ok (.ireturn, 1) := by decide +kernel
theorem dX9_empty_10 : decode cX9_empty 10 = .ok (.aload_n 0, 1) := by decide +kernel
theorem dX9_empty_11 : decode cX9_empty 11 = .ok (.getfield 7, 3) := by decide +kernel
theorem dX9_empty_14 : decode cX9_empty 14 = .ok (.bipush 9, 2) := by decide +kernel
theorem dX9_empty_16 : decode cX9_empty 16 = .ok (.aload_n 0, 1) := by decide +kernel
theorem dX9_empty_17 : decode cX9_empty 17 = .ok (.iload_n 1, 1) := by decide +kernel
theorem dX9_empty_18 : decode cX9_empty 18 = .ok (.invokevirtual 102, 3) := by decide +kernel
theorem dX9_empty_21 : decode cX9_empty 21 = .ok (.iadd, 1) := by decide +kernel
theorem dX9_empty_22 : decode cX9_empty 22 = .ok (.iaload, 1) := by decide +kernel
theorem dX9_empty_23 : decode cX9_empty 23 = .ok (.aload_n 0, 1) := by decide +kernel
theorem dX9_empty_24 : decode cX9_empty 24 = .ok (.iload_n 1, 1) := by decide +kernel
theorem dX9_empty_25 : decode cX9_empty 25 = .ok (.iconst 3, 1) := by decide +kernel
theorem dX9_empty_26 : decode cX9_empty 26 = .ok (.invokevirtual 99, 3) := by decide +kernel
theorem dX9_empty_29 : decode cX9_empty 29 = .ok (.iadd, 1) := by decide +kernel
theorem dX9_empty_30 : decode cX9_empty 30 = .ok (.bipush 99, 2) := by decide +kernel
theorem dX9_empty_32 : decode cX9_empty 32 = .ok (.if_icmp .le 6, 3) := by decide +kernel
theorem dX9_empty_35 : decode cX9_empty 35 = .ok (.bipush (-4), 2) := by decide +kernel
theorem dX9_empty_37 : decode cX9_empty 37 = .ok (.ireturn, 1) := by decide +kernel
theorem dX9_empty_38 : decode cX9_empty 38 = .ok (.aload_n 0, 1) := by decide +kernel
theorem dX9_empty_39 : decode cX9_empty 39 = .ok (.iload_n 1, 1) := by decide +kernel
theorem dX9_empty_40 : decode cX9_empty 40 = .ok (.iconst 3, 1) := by decide +kernel
theorem dX9_empty_41 : decode cX9_empty 41 = .ok (.invokevirtual 99, 3) := by decide +kernel
theorem dX9_empty_44 : decode cX9_empty 44 = .ok (.ifCond .ne 6, 3) := by decide +kernel
theorem dX9_empty_47 : decode cX9_empty 47 = .ok (.bipush (-5), 2) := by decide +kernel
theorem dX9_empty_49 : decode cX9_empty 49 = .ok (.ireturn, 1) := by decide +kernel
theorem dX9_empty_50 : decode cX9_empty 50 = .ok (.aload_n 0, 1) := by decide +kernel
theorem dX9_empty_51 : decode cX9_empty 51 = .ok (.invokevirtual 66, 3) := by decide +kernel
theorem dX9_empty_54 : decode cX9_empty 54 = .ok (.aload_n 0, 1) := by decide +kernel
theorem dX9_empty_55 : decode cX9_empty 55 = .ok (.iload_n 1, 1) := by decide +kernel
theorem dX9_empty_56 : decode cX9_empty 56 = .ok (.aload_n 0, 1) := by decide +kernel
theorem dX9_empty_57 : decode cX9_empty 57 = .ok (.iload_n 1, 1) := by decide +kernel
theorem dX9_empty_58 : decode cX9_empty 58 = .ok (.iconst 3, 1) := by decide +kernel
theorem dX9_empty_59 : decode cX9_empty 59 = .ok (.invokevirtual 99, 3) := by decide +kernel
theorem dX9_empty_62 : decode cX9_empty 62 = .ok (.invokevirtual 105, 3) := by decide +kernel
theorem dX9_empty_65 : decode cX9_empty 65 = .ok (.aload_n 0, 1) := by decide +kernel
theorem dX9_empty_66 : decode cX9_empty 66 = .ok (.aload_n 0, 1) := by decide +kernel
theorem dX9_empty_67 : decode cX9_empty 67 = .ok (.getfield 7, 3) := by decide +kernel
theorem dX9_empty_70 : decode cX9_empty 70 = .ok (.bipush 9, 2) := by decide +kernel
theorem dX9_empty_72 : decode cX9_empty 72 = .ok (.aload_n 0, 1) := by decide +kernel
theorem dX9_empty_73 : decode cX9_empty 73 = .ok (.iload_n 1, 1) := by decide +kernel
theorem dX9_empty_74 : decode cX9_empty 74 = .ok (.invokevirtual 102, 3) := by decide +kernel
theorem dX9_empty_77 : decode cX9_empty 77 = .ok (.iadd, 1) := by decide +kernel
theorem dX9_empty_78 : decode cX9_empty 78 = .ok (.iaload, 1) := by decide +kernel
theorem dX9_empty_79 : decode cX9_empty 79 = .ok (.invokevirtual 69, 3) := by decide +kernel
theorem dX9_empty_82 : decode cX9_empty 82 = .ok (.ireturn, 1) := by decide +kernel
theorem dX9_addTurn_0 : decode cX9_addTurn 0 = .ok (.iload_n 1, 1) := by decide +kernel
theorem dX9_addTurn_1 : decode cX9_addTurn 1 = .ok (.iconst 0, 1) := by decide +kernel
theorem dX9_addTurn_2 : decode cX9_addTurn 2 = .ok (.bipush 9, 2) := by decide +kernel
theorem dX9_addTurn_4 : decode cX9_addTurn 4 = .ok (.invokestatic 58, 3) := by decide +kernel
theorem dX9_addTurn_7 : decode cX9_addTurn 7 = .ok (.ifCond .ne 6, 3) := by decide +kernel
theorem dX9_addTurn_10 : decode cX9_addTurn 10 = .ok (.bipush (-2), 2) := by decide +kernel
theorem dX9_addTurn_12 : decode cX9_addTurn 12 = .ok (.ireturn, 1) := by decide +kernel
theorem dX9_addTurn_13 : decode cX9_addTurn 13 = .ok (.aload_n 0, 1) := by decide +kernel
theorem dX9_addTurn_14 : decode cX9_addTurn 14 = .ok (.getfield 7, 3) := by decide +kernel
theorem dX9_addTurn_17 : decode cX9_addTurn 17 = .ok (.iconst 3, 1) := by decide +kernel
theorem dX9_addTurn_18 : decode cX9_addTurn 18 = .ok (.iaload, 1) := by decide +kernel
theorem dX9_addTurn_19 : decode cX9_addTurn 19 = .ok (.bipush 30, 2) := by decide +kernel
theorem dX9_addTurn_21 : decode cX9_addTurn 21 = .ok (.if_icmp .ne 6, 3) := by decide +kernel
theorem dX9_addTurn_24 : decode cX9_addTurn 24 = .ok (.bipush (-3), 2) := by decide +kernel
theorem dX9_addTurn_26 : decode cX9_addTurn 26 = .ok (.ireturn, 1) := by decide +kernel
theorem dX9_addTurn_27 : decode cX9_addTurn 27 = .ok (.aload_n 0, 1) := by decide +kernel
theorem dX9_addTurn_28 : decode cX9_addTurn 28 = .ok (.invokevirtual 66, 3) := by decide +kernel
theorem dX9_addTurn_31 : decode cX9_addTurn 31 = .ok (.aload_n 0, 1) := by decide +kernel
theorem dX9_addTurn_32 : decode cX9_addTurn 32 = .ok (.getfield 7, 3) := by decide +kernel
theorem dX9_addTurn_35 : decode cX9_addTurn 35 = .ok (.iconst 5, 1) := by decide +kernel
theorem dX9_addTurn_36 : decode cX9_addTurn 36 = .ok (.iaload, 1) := by decide +kernel
theorem dX9_addTurn_37 : decode cX9_addTurn 37 = .ok (.iconst 1, 1) := by decide +kernel
theorem dX9_addTurn_38 : decode cX9_addTurn 38 = .ok (.if_icmp .ne 7, 3) := by decide +kernel
theorem dX9_addTurn_41 : decode cX9_addTurn 41 = .ok (.iconst 0, 1) := by decide +kernel
theorem dX9_addTurn_42 : decode cX9_addTurn 42 = .ok (.goto 9, 3) := by decide +kernel
theorem dX9_addTurn_45 : decode cX9_addTurn 45 = .ok (.aload_n 0, 1) := by decide +kernel
theorem dX9_addTurn_46 : decode cX9_addTurn 46 = .ok (.getfield 7, 3) := by decide +kernel
theorem dX9_addTurn_49 : decode cX9_addTurn 49 = .ok (.iconst 3, 1) := by decide +kernel
theorem dX9_addTurn_50 : decode cX9_addTurn 50 = .ok (.iaload, 1) := by decide +kernel
theorem dX9_addTurn_51 : decode cX9_addTurn 51 = .ok (.istore_n 2, 1) := by decide +kernel
theorem dX9_addTurn_52 : decode cX9_addTurn 52 = .ok (.aload_n 0, 1) := by decide +kernel
theorem dX9_addTurn_53 : decode cX9_addTurn 53 = .ok (.getfield 7, 3) := by decide +kernel
theorem dX9_addTurn_56 : decode cX9_addTurn 56 = .ok (.sipush 337, 3) := by decide +kernel
theorem dX9_addTurn_59 : decode cX9_addTurn 59 = .ok (.iload_n 2, 1) := by decide +kernel
theorem dX9_addTurn_60 : decode cX9_addTurn 60 = .ok (.iadd, 1) := by decide +kernel
theorem dX9_addTurn_61 : decode cX9_addTurn 61 = .ok (.iload_n 1, 1) := by decide +kernel
theorem dX9_addTurn_62 : decode cX9_addTurn 62 = .ok (.iastore, 1) := by decide +kernel
theorem dX9_addTurn_63 : decode cX9_addTurn 63 = .ok (.aload_n 0, 1) := by decide +kernel
theorem dX9_addTurn_64 : decode cX9_addTurn 64 = .ok (.getfield 7, 3) := by decide +kernel
theorem dX9_addTurn_67 : decode cX9_addTurn 67 = .ok (.iconst 3, 1) := by decide +kernel
theorem dX9_addTurn_68 : decode cX9_addTurn 68 = .ok (.iload_n 2, 1) := by decide +kernel
theorem dX9_addTurn_69 : decode cX9_addTurn 69 = .ok (.iconst 1, 1) := by decide +kernel
theorem dX9_addTurn_70 : decode cX9_addTurn 70 = .ok (.iadd, 1) := by decide +kernel
theorem dX9_addTurn_71 : decode cX9_addTurn 71 = .ok (.iastore, 1) := by decide +kernel
theorem dX9_addTurn_72 : decode cX9_addTurn 72 = .ok (.aload_n 0, 1) := by decide +kernel
theorem dX9_addTurn_73 : decode cX9_addTurn 73 = .ok (.getfield 7, 3) := by decide +kernel
theorem dX9_addTurn_76 : decode cX9_addTurn 76 = .ok (.iconst 5, 1) := by decide +kernel
theorem dX9_addTurn_77 : decode cX9_addTurn 77 = .ok (.iconst 0, 1) := by decide +kernel
theorem dX9_addTurn_78 : decode cX9_addTurn 78 = .ok (.iastore, 1) := by decide +kernel
theorem dX9_addTurn_79 : decode cX9_addTurn 79 = .ok (.aload_n 0, 1) := by decide +kernel
theorem dX9_addTurn_80 : decode cX9_addTurn 80 = .ok (.getfield 7, 3) := by decide +kernel
theorem dX9_addTurn_83 : decode cX9_addTurn 83 = .ok (.iconst 4, 1) := by decide +kernel
theorem dX9_addTurn_84 : decode cX9_addTurn 84 = .ok (.iconst 0, 1) := by decide +kernel
theorem dX9_addTurn_85 : decode cX9_addTurn 85 = .ok (.iastore, 1) := by decide +kernel
theorem dX9_addTurn_86 : decode cX9_addTurn 86 = .ok (.aload_n 0, 1) := by decide +kernel
theorem dX9_addTurn_87 : decode cX9_addTurn 87 = .ok (.iload_n 2, 1) := by decide +kernel
theorem dX9_addTurn_88 : decode cX9_addTurn 88 = .ok (.iconst 1, 1) := by decide +kernel
theorem dX9_addTurn_89 : decode cX9_addTurn 89 = .ok (.iadd, 1) := by decide +kernel
theorem dX9_addTurn_90 : decode cX9_addTurn 90 = .ok (.invokevirtual 69, 3) := by decide +kernel
theorem dX9_addTurn_93 : decode cX9_addTurn 93 = .ok (.ireturn, 1) := by decide +kernel
theorem dX9_clearTurns_0 : decode cX9_clearTurns 0 = .ok (.aload_n 0, 1) := by decide +kernel
theorem dX9_clearTurns_1 : decode cX9_clearTurns 1 = .ok (.invokevirtual 66, 3) := by decide +kernel
theorem dX9_clearTurns_4 : decode cX9_clearTurns 4 = .ok (.aload_n 0, 1) := by decide +kernel
theorem dX9_clearTurns_5 : decode cX9_clearTurns 5 = .ok (.getfield 7, 3) := by decide +kernel
theorem dX9_clearTurns_8 : decode cX9_clearTurns 8 = .ok (.iconst 3, 1) := by decide +kernel
theorem dX9_clearTurns_9 : decode cX9_clearTurns 9 = .ok (.iaload, 1) := by decide +kernel
theorem dX9_clearTurns_10 : decode cX9_clearTurns 10 = .ok (.istore_n 1, 1) := by decide +kernel
theorem dX9_clearTurns_11 : decode cX9_clearTurns 11 = .ok (.aload_n 0, 1) := by decide +kernel
theorem dX9_clearTurns_12 : decode cX9_clearTurns 12 = .ok (.getfield 7, 3) := by decide +kernel
theorem dX9_clearTurns_15 : decode cX9_clearTurns 15 = .ok (.sipush 337, 3) := by decide +kernel
theorem dX9_clearTurns_18 : decode cX9_clearTurns 18 = .ok (.iconst 0, 1) := by decide +kernel
theorem dX9_clearTurns_19 : decode cX9_clearTurns 19 = .ok (.iastore, 1) := by decide +kernel
theorem dX9_clearTurns_20 : decode cX9_clearTurns 20 = .ok (.aload_n 0, 1) := by decide +kernel
theorem dX9_clearTurns_21 : decode cX9_clearTurns 21 = .ok (.getfield 7, 3) := by decide +kernel
theorem dX9_clearTurns_24 : decode cX9_clearTurns 24 = .ok (.iconst 3, 1) := by decide +kernel
theorem dX9_clearTurns_25 : decode cX9_clearTurns 25 = .ok (.iconst 1, 1) := by decide +kernel
theorem dX9_clearTurns_26 : decode cX9_clearTurns 26 = .ok (.iastore, 1) := by decide +kernel
theorem dX9_clearTurns_27 : decode cX9_clearTurns 27 = .ok (.aload_n 0, 1) := by decide +kernel
theorem dX9_clearTurns_28 : decode cX9_clearTurns 28 = .ok (.getfield 7, 3) := by decide +kernel
theorem dX9_clearTurns_31 : decode cX9_clearTurns 31 = .ok (.iconst 5, 1) := by decide +kernel
theorem dX9_clearTurns_32 : decode cX9_clearTurns 32 = .ok (.iconst 1, 1) := by decide +kernel
theorem dX9_clearTurns_33 : decode cX9_clearTurns 33 = .ok (.iastore, 1) := by decide +kernel
theorem dX9_clearTurns_34 : decode cX9_clearTurns 34 = .ok (.aload_n 0, 1) := by decide +kernel
theorem dX9_clearTurns_35 : decode cX9_clearTurns 35 = .ok (.getfield 7, 3) := by decide +kernel
theorem dX9_clearTurns_38 : decode cX9_clearTurns 38 = .ok (.iconst 4, 1) := by decide +kernel
theorem dX9_clearTurns_39 : decode cX9_clearTurns 39 = .ok (.iconst 0, 1) := by decide +kernel
theorem dX9_clearTurns_40 : decode cX9_clearTurns 40 = .ok (.iastore, 1) := by decide +kernel
theorem dX9_clearTurns_41 : decode cX9_clearTurns 41 = .ok (.aload_n 0, 1) := by decide +kernel
theorem dX9_clearTurns_42 : decode cX9_clearTurns 42 = .ok (.iload_n 1, 1) := by decide +kernel
theorem dX9_clearTurns_43 : decode cX9_clearTurns 43 = .ok (.invokevirtual 69, 3) := by decide +kernel
theorem dX9_clearTurns_46 : decode cX9_clearTurns 46 = .ok (.ireturn, 1) := by decide +kernel
theorem dX9_nextTurn_0 : decode cX9_nextTurn 0 = .ok (.aload_n 0, 1) := by decide +kernel
theorem dX9_nextTurn_1 : decode cX9_nextTurn 1 = .ok (.getfield 7, 3) := by decide +kernel
theorem dX9_nextTurn_4 : decode cX9_nextTurn 4 = .ok (.sipush 337, 3) := by decide +kernel
theorem dX9_nextTurn_7 : decode cX9_nextTurn 7 = .ok (.aload_n 0, 1) := by decide +kernel
theorem dX9_nextTurn_8 : decode cX9_nextTurn 8 = .ok (.getfield 7, 3) := by decide +kernel
theorem dX9_nextTurn_11 : decode cX9_nextTurn 11 = .ok (.iconst 4, 1) := by decide +kernel
theorem dX9_nextTurn_12 : decode cX9_nextTurn 12 = .ok (.iaload, 1) := by decide +kernel
theorem dX9_nextTurn_13 : decode cX9_nextTurn 13 = .ok (.iadd, 1) := by decide +kernel
theorem dX9_nextTurn_14 : decode cX9_nextTurn 14 = .ok (.iaload, 1) := by decide +kernel
theorem dX9_nextTurn_15 : decode cX9_nextTurn 15 = .ok (.istore_n 1, 1) := by decide +kernel
theorem dX9_nextTurn_16 : decode cX9_nextTurn 16 = .ok (.aload_n 0, 1) := by decide +kernel
theorem dX9_nextTurn_17 : decode cX9_nextTurn 17 = .ok (.getfield 7, 3) := by decide +kernel
theorem dX9_nextTurn_20 : decode cX9_nextTurn 20 = .ok (.iconst 4, 1) := by decide +kernel
theorem dX9_nextTurn_21 : decode cX9_nextTurn 21 = .ok (.aload_n 0, 1) := by decide +kernel
theorem dX9_nextTurn_22 : decode cX9_nextTurn 22 = .ok (.getfield 7, 3) := by decide +kernel
theorem dX9_nextTurn_25 : decode cX9_nextTurn 25 = .ok (.iconst 4, 1) := by decide +kernel
theorem dX9_nextTurn_26 : decode cX9_nextTurn 26 = .ok (.iaload, 1) := by decide +kernel
theorem dX9_nextTurn_27 : decode cX9_nextTurn 27 = .ok (.iconst 1, 1) := by decide +kernel
theorem dX9_nextTurn_28 : decode cX9_nextTurn 28 = .ok (.iadd, 1) := by decide +kernel
theorem dX9_nextTurn_29 : decode cX9_nextTurn 29 = .ok (.aload_n 0, 1) := by decide +kernel
theorem dX9_nextTurn_30 : decode cX9_nextTurn 30 = .ok (.getfield 7, 3) := by decide +kernel
theorem dX9_nextTurn_33 : decode cX9_nextTurn 33 = .ok (.iconst 3, 1) := by decide +kernel
theorem dX9_nextTurn_34 : decode cX9_nextTurn 34 = .ok (.iaload, 1) := by decide +kernel
theorem dX9_nextTurn_35 : decode cX9_nextTurn 35 = .ok (.irem, 1) := by decide +kernel
theorem dX9_nextTurn_36 : decode cX9_nextTurn 36 = .ok (.iastore, 1) := by decide +kernel
theorem dX9_nextTurn_37 : decode cX9_nextTurn 37 = .ok (.iload_n 1, 1) := by decide +kernel
theorem dX9_nextTurn_38 : decode cX9_nextTurn 38 = .ok (.iconst 5, 1) := by decide +kernel
theorem dX9_nextTurn_39 : decode cX9_nextTurn 39 = .ok (.if_icmp .ge 7, 3) := by decide +kernel
theorem dX9_nextTurn_42 : decode cX9_nextTurn 42 = .ok (.iconst 0, 1) := by decide +kernel
theorem dX9_nextTurn_43 : decode cX9_nextTurn 43 = .ok (.goto 24, 3) := by decide +kernel
theorem dX9_nextTurn_46 : decode cX9_nextTurn 46 = .ok (.iload_n 1, 1) := by decide +kernel
theorem dX9_nextTurn_47 : decode cX9_nextTurn 47 = .ok (.bipush 7, 2) := by decide +kernel
theorem dX9_nextTurn_49 : decode cX9_nextTurn 49 = .ok (.if_icmp .ge 7, 3) := by decide +kernel
theorem dX9_nextTurn_52 : decode cX9_nextTurn 52 = .ok (.iconst 1, 1) := by decide +kernel
theorem dX9_nextTurn_53 : decode cX9_nextTurn 53 = .ok (.goto 14, 3) := by decide +kernel
theorem dX9_nextTurn_56 : decode cX9_nextTurn 56 = .ok (.iload_n 1, 1) := by decide +kernel
theorem dX9_nextTurn_57 : decode cX9_nextTurn 57 = .ok (.bipush 9, 2) := by decide +kernel
theorem dX9_nextTurn_59 : decode cX9_nextTurn 59 = .ok (.if_icmp .ge 7, 3) := by decide +kernel
theorem dX9_nextTurn_62 : decode cX9_nextTurn 62 = .ok (.iconst 3, 1) := by decide +kernel
theorem dX9_nextTurn_63 : decode cX9_nextTurn 63 = .ok (.goto 4, 3) := by decide +kernel
theorem dX9_nextTurn_66 : decode cX9_nextTurn 66 = .ok (.iconst 2, 1) := by decide +kernel
theorem dX9_nextTurn_67 : decode cX9_nextTurn 67 = .ok (.ireturn, 1) := by decide +kernel
theorem dX9_actBySort_0 : decode cX9_actBySort 0 = .ok (.aload_n 0, 1) := by decide +kernel
theorem dX9_actBySort_1 : decode cX9_actBySort 1 = .ok (.getfield 7, 3) := by decide +kernel
theorem dX9_actBySort_4 : decode cX9_actBySort 4 = .ok (.bipush 9, 2) := by decide +kernel
theorem dX9_actBySort_6 : decode cX9_actBySort 6 = .ok (.aload_n 0, 1) := by decide +kernel
theorem dX9_actBySort_7 : decode cX9_actBySort 7 = .ok (.iload_n 1, 1) := by decide +kernel
theorem dX9_actBySort_8 : decode cX9_actBySort 8 = .ok (.invokevirtual 102, 3) := by decide +kernel
theorem dX9_actBySort_11 : decode cX9_actBySort 11 = .ok (.iadd, 1) := by decide +kernel
theorem dX9_actBySort_12 : decode cX9_actBySort 12 = .ok (.iaload, 1) := by decide +kernel
theorem dX9_actBySort_13 : decode cX9_actBySort 13 = .ok (.istore_n 2, 1) := by decide +kernel
theorem dX9_actBySort_14 : decode cX9_actBySort 14 = .ok (.aload_n 0, 1) := by decide +kernel
theorem dX9_actBySort_15 : decode cX9_actBySort 15 = .ok (.iload_n 1, 1) := by decide +kernel
theorem dX9_actBySort_16 : decode cX9_actBySort 16 = .ok (.iconst 3, 1) := by decide +kernel
theorem dX9_actBySort_17 : decode cX9_actBySort 17 = .ok (.invokevirtual 99, 3) := by decide +kernel
theorem dX9_actBySort_20 : decode cX9_actBySort 20 = .ok (.istore_n 3, 1) := by decide +kernel
theorem dX9_actBySort_21 : decode cX9_actBySort 21 = .ok (.aload_n 0, 1) := by decide +kernel
theorem dX9_actBySort_22 : decode cX9_actBySort 22 = .ok (.iload_n 1, 1) := by decide +kernel
theorem dX9_actBySort_23 : decode cX9_actBySort 23 = .ok (.iconst 4, 1) := by decide +kernel
theorem dX9_actBySort_24 : decode cX9_actBySort 24 = .ok (.invokevirtual 99, 3) := by decide +kernel
theorem dX9_actBySort_27 : decode cX9_actBySort 27 = .ok (.iload_n 3, 1) := by decide +kernel
theorem dX9_actBySort_28 : decode cX9_actBySort 28 = .ok (.isub, 1) := by decide +kernel
theorem dX9_actBySort_29 : decode cX9_actBySort 29 = .ok (.istore 4, 2) := by decide +kernel
theorem dX9_actBySort_31 : decode cX9_actBySort 31 = .ok (.aload_n 0, 1) := by decide +kernel
theorem dX9_actBySort_32 : decode cX9_actBySort 32 = .ok (.iload_n 1, 1) := by decide +kernel
theorem dX9_actBySort_33 : decode cX9_actBySort 33 = .ok (.iconst 5, 1) := by decide +kernel
theorem dX9_actBySort_34 : decode cX9_actBySort 34 = .ok (.invokevirtual 99, 3) := by decide +kernel
theorem dX9_actBySort_37 : decode cX9_actBySort 37 = .ok (.lookupswitch 120 #[(0, 27), (1, 67)], 27) := by decide +kernel
theorem dX9_actBySort_64 : decode cX9_actBySort 64 = .ok (.iload_n 3, 1) := by decide +kernel
theorem dX9_actBySort_65 : decode cX9_actBySort 65 = .ok (.ifCond .ne 16, 3) := by decide +kernel
theorem dX9_actBySort_68 : decode cX9_actBySort 68 = .ok (.iload_n 2, 1) := by decide +kernel
theorem dX9_actBySort_69 : decode cX9_actBySort 69 = .ok (.ifCond .le 12, 3) := by decide +kernel
theorem dX9_actBySort_72 : decode cX9_actBySort 72 = .ok (.aload_n 0, 1) := by decide +kernel
theorem dX9_actBySort_73 : decode cX9_actBySort 73 = .ok (.iload_n 1, 1) := by decide +kernel
theorem dX9_actBySort_74 : decode cX9_actBySort 74 = .ok (.iconst 1, 1) := by decide +kernel
theorem dX9_actBySort_75 : decode cX9_actBySort 75 = .ok (.invokevirtual 109, 3) := by decide +kernel
theorem dX9_actBySort_78 : decode cX9_actBySort 78 = .ok (.goto 138, 3) := by decide +kernel
theorem dX9_actBySort_81 : decode cX9_actBySort 81 = .ok (.iload_n 3, 1) := by decide +kernel
theorem dX9_actBySort_82 : decode cX9_actBySort 82 = .ok (.ifCond .le 134, 3) := by decide +kernel
theorem dX9_actBySort_85 : decode cX9_actBySort 85 = .ok (.iload_n 2, 1) := by decide +kernel
theorem dX9_actBySort_86 : decode cX9_actBySort 86 = .ok (.ifCond .le 130, 3) := by decide +kernel
theorem dX9_actBySort_89 : decode cX9_actBySort 89 = .ok (.iload_n 2, 1) := by decide +kernel
theorem dX9_actBySort_90 : decode cX9_actBySort 90 = .ok (.bipush 99, 2) := by decide +kernel
theorem dX9_actBySort_92 : decode cX9_actBySort 92 = .ok (.if_icmp .ge 124, 3) := by decide +kernel
theorem dX9_actBySort_95 : decode cX9_actBySort 95 = .ok (.aload_n 0, 1) := by decide +kernel
theorem dX9_actBySort_96 : decode cX9_actBySort 96 = .ok (.iload_n 1, 1) := by decide +kernel
theorem dX9_actBySort_97 : decode cX9_actBySort 97 = .ok (.iconst 1, 1) := by decide +kernel
theorem dX9_actBySort_98 : decode cX9_actBySort 98 = .ok (.invokevirtual 105, 3) := by decide +kernel
theorem dX9_actBySort_101 : decode cX9_actBySort 101 = .ok (.goto 115, 3) := by decide +kernel
theorem dX9_actBySort_104 : decode cX9_actBySort 104 = .ok (.iload_n 2, 1) := by decide +kernel
theorem dX9_actBySort_105 : decode cX9_actBySort 105 = .ok (.iconst 1, 1) := by decide +kernel
theorem dX9_actBySort_106 : decode cX9_actBySort 106 = .ok (.iconst 2, 1) := by decide +kernel
theorem dX9_actBySort_107 : decode cX9_actBySort 107 = .ok (.invokestatic 58, 3) := by decide +kernel
theorem dX9_actBySort_110 : decode cX9_actBySort 110 = .ok (.ifCond .eq 22, 3) := by decide +kernel
theorem dX9_actBySort_113 : decode cX9_actBySort 113 = .ok (.iload 4, 2) := by decide +kernel
theorem dX9_actBySort_115 : decode cX9_actBySort 115 = .ok (.ifCond .le 17, 3) := by decide +kernel
theorem dX9_actBySort_118 : decode cX9_actBySort 118 = .ok (.aload_n 0, 1) := by decide +kernel
theorem dX9_actBySort_119 : decode cX9_actBySort 119 = .ok (.iload_n 1, 1) := by decide +kernel
theorem dX9_actBySort_120 : decode cX9_actBySort 120 = .ok (.iload_n 2, 1) := by decide +kernel
theorem dX9_actBySort_121 : decode cX9_actBySort 121 = .ok (.iload 4, 2) := by decide +kernel
theorem dX9_actBySort_123 : decode cX9_actBySort 123 = .ok (.invokestatic 112, 3) := by decide +kernel
theorem dX9_actBySort_126 : decode cX9_actBySort 126 = .ok (.invokevirtual 109, 3) := by decide +kernel
theorem dX9_actBySort_129 : decode cX9_actBySort 129 = .ok (.goto 87, 3) := by decide +kernel
theorem dX9_actBySort_132 : decode cX9_actBySort 132 = .ok (.iload_n 2, 1) := by decide +kernel
theorem dX9_actBySort_133 : decode cX9_actBySort 133 = .ok (.iconst 2, 1) := by decide +kernel
theorem dX9_actBySort_134 : decode cX9_actBySort 134 = .ok (.if_icmp .le 82, 3) := by decide +kernel
theorem dX9_actBySort_137 : decode cX9_actBySort 137 = .ok (.iload_n 3, 1) := by decide +kernel
theorem dX9_actBySort_138 : decode cX9_actBySort 138 = .ok (.ifCond .le 78, 3) := by decide +kernel
theorem dX9_actBySort_141 : decode cX9_actBySort 141 = .ok (.aload_n 0, 1) := by decide +kernel
theorem dX9_actBySort_142 : decode cX9_actBySort 142 = .ok (.iload_n 1, 1) := by decide +kernel
theorem dX9_actBySort_143 : decode cX9_actBySort 143 = .ok (.iload_n 3, 1) := by decide +kernel
theorem dX9_actBySort_144 : decode cX9_actBySort 144 = .ok (.bipush 99, 2) := by decide +kernel
theorem dX9_actBySort_146 : decode cX9_actBySort 146 = .ok (.iload_n 2, 1) := by decide +kernel
theorem dX9_actBySort_147 : decode cX9_actBySort 147 = .ok (.isub, 1) := by decide +kernel
theorem dX9_actBySort_148 : decode cX9_actBySort 148 = .ok (.invokestatic 112, 3) := by decide +kernel
theorem dX9_actBySort_151 : decode cX9_actBySort 151 = .ok (.invokevirtual 105, 3) := by decide +kernel
theorem dX9_actBySort_154 : decode cX9_actBySort 154 = .ok (.goto 62, 3) := by decide +kernel
theorem dX9_actBySort_157 : decode cX9_actBySort 157 = .ok (.aload_n 0, 1) := by decide +kernel
theorem dX9_actBySort_158 : decode cX9_actBySort 158 = .ok (.invokevirtual 115, 3) := by decide +kernel
theorem dX9_actBySort_161 : decode cX9_actBySort 161 = .ok (.iload 4, 2) := by decide +kernel
theorem dX9_actBySort_163 : decode cX9_actBySort 163 = .ok (.ifCond .le 33, 3) := by decide +kernel
theorem dX9_actBySort_166 : decode cX9_actBySort 166 = .ok (.iload_n 2, 1) := by decide +kernel
theorem dX9_actBySort_167 : decode cX9_actBySort 167 = .ok (.ifCond .le 29, 3) := by decide +kernel
theorem dX9_actBySort_170 : decode cX9_actBySort 170 = .ok (.aload_n 0, 1) := by decide +kernel
theorem dX9_actBySort_171 : decode cX9_actBySort 171 = .ok (.aload_n 0, 1) := by decide +kernel
theorem dX9_actBySort_172 : decode cX9_actBySort 172 = .ok (.getfield 26, 3) := by decide +kernel
theorem dX9_actBySort_175 : decode cX9_actBySort 175 = .ok (.aload_n 0, 1) := by decide +kernel
theorem dX9_actBySort_176 : decode cX9_actBySort 176 = .ok (.iload_n 1, 1) := by decide +kernel
theorem dX9_actBySort_177 : decode cX9_actBySort 177 = .ok (.invokevirtual 102, 3) := by decide +kernel
theorem dX9_actBySort_180 : decode cX9_actBySort 180 = .ok (.iaload, 1) := by decide +kernel
theorem dX9_actBySort_181 : decode cX9_actBySort 181 = .ok (.invokevirtual 118, 3) := by decide +kernel
theorem dX9_actBySort_184 : decode cX9_actBySort 184 = .ok (.ifCond .le 12, 3) := by decide +kernel
theorem dX9_actBySort_187 : decode cX9_actBySort 187 = .ok (.aload_n 0, 1) := by decide +kernel
theorem dX9_actBySort_188 : decode cX9_actBySort 188 = .ok (.iload_n 1, 1) := by decide +kernel
theorem dX9_actBySort_189 : decode cX9_actBySort 189 = .ok (.iconst 1, 1) := by decide +kernel
theorem dX9_actBySort_190 : decode cX9_actBySort 190 = .ok (.invokevirtual 109, 3) := by decide +kernel
theorem dX9_actBySort_193 : decode cX9_actBySort 193 = .ok (.goto 23, 3) := by decide +kernel
theorem dX9_actBySort_196 : decode cX9_actBySort 196 = .ok (.iload_n 3, 1) := by decide +kernel
theorem dX9_actBySort_197 : decode cX9_actBySort 197 = .ok (.ifCond .le 19, 3) := by decide +kernel
theorem dX9_actBySort_200 : decode cX9_actBySort 200 = .ok (.iload_n 2, 1) := by decide +kernel
theorem dX9_actBySort_201 : decode cX9_actBySort 201 = .ok (.ifCond .le 15, 3) := by decide +kernel
theorem dX9_actBySort_204 : decode cX9_actBySort 204 = .ok (.iload_n 2, 1) := by decide +kernel
theorem dX9_actBySort_205 : decode cX9_actBySort 205 = .ok (.bipush 99, 2) := by decide +kernel
theorem dX9_actBySort_207 : decode cX9_actBySort 207 = .ok (.if_icmp .ge 9, 3) := by decide +kernel
theorem dX9_actBySort_210 : decode cX9_actBySort 210 = .ok (.aload_n 0, 1) := by decide +kernel
theorem dX9_actBySort_211 : decode cX9_actBySort 211 = .ok (.iload_n 1, 1) := by decide +kernel
theorem dX9_actBySort_212 : decode cX9_actBySort 212 = .ok (.iconst 1, 1) := by decide +kernel
theorem dX9_actBySort_213 : decode cX9_actBySort 213 = .ok (.invokevirtual 105, 3) := by decide +kernel
theorem dX9_actBySort_216 : decode cX9_actBySort 216 = .ok (.return_, 1) := by decide +kernel
theorem dX9_goAhead_0 : decode cX9_goAhead 0 = .ok (.aload_n 0, 1) := by decide +kernel
theorem dX9_goAhead_1 : decode cX9_goAhead 1 = .ok (.invokevirtual 115, 3) := by decide +kernel
theorem dX9_goAhead_4 : decode cX9_goAhead 4 = .ok (.aload_n 0, 1) := by decide +kernel
theorem dX9_goAhead_5 : decode cX9_goAhead 5 = .ok (.getfield 77, 3) := by decide +kernel
theorem dX9_goAhead_8 : decode cX9_goAhead 8 = .ok (.istore_n 2, 1) := by decide +kernel
theorem dX9_goAhead_9 : decode cX9_goAhead 9 = .ok (.aload_n 0, 1) := by decide +kernel
theorem dX9_goAhead_10 : decode cX9_goAhead 10 = .ok (.aload_n 0, 1) := by decide +kernel
theorem dX9_goAhead_11 : decode cX9_goAhead 11 = .ok (.iload_n 1, 1) := by decide +kernel
theorem dX9_goAhead_12 : decode cX9_goAhead 12 = .ok (.invokevirtual 102, 3) := by decide +kernel
theorem dX9_goAhead_15 : decode cX9_goAhead 15 = .ok (.aload_n 0, 1) := by decide +kernel
theorem dX9_goAhead_16 : decode cX9_goAhead 16 = .ok (.iload_n 1, 1) := by decide +kernel
theorem dX9_goAhead_17 : decode cX9_goAhead 17 = .ok (.iconst 2, 1) := by decide +kernel
theorem dX9_goAhead_18 : decode cX9_goAhead 18 = .ok (.invokevirtual 99, 3) := by decide +kernel
theorem dX9_goAhead_21 : decode cX9_goAhead 21 = .ok (.invokevirtual 80, 3) := by decide +kernel
theorem dX9_goAhead_24 : decode cX9_goAhead 24 = .ok (.istore_n 3, 1) := by decide +kernel
theorem dX9_goAhead_25 : decode cX9_goAhead 25 = .ok (.aload_n 0, 1) := by decide +kernel
theorem dX9_goAhead_26 : decode cX9_goAhead 26 = .ok (.iload_n 1, 1) := by decide +kernel
theorem dX9_goAhead_27 : decode cX9_goAhead 27 = .ok (.iconst 0, 1) := by decide +kernel
theorem dX9_goAhead_28 : decode cX9_goAhead 28 = .ok (.iload_n 3, 1) := by decide +kernel
theorem dX9_goAhead_29 : decode cX9_goAhead 29 = .ok (.bipush 16, 2) := by decide +kernel
theorem dX9_goAhead_31 : decode cX9_goAhead 31 = .ok (.idiv, 1) := by decide +kernel
theorem dX9_goAhead_32 : decode cX9_goAhead 32 = .ok (.invokevirtual 91, 3) := by decide +kernel
theorem dX9_goAhead_35 : decode cX9_goAhead 35 = .ok (.aload_n 0, 1) := by decide +kernel
theorem dX9_goAhead_36 : decode cX9_goAhead 36 = .ok (.iload_n 1, 1) := by decide +kernel
theorem dX9_goAhead_37 : decode cX9_goAhead 37 = .ok (.iconst 1, 1) := by decide +kernel
theorem dX9_goAhead_38 : decode cX9_goAhead 38 = .ok (.iload_n 3, 1) := by decide +kernel
theorem dX9_goAhead_39 : decode cX9_goAhead 39 = .ok (.bipush 16, 2) := by decide +kernel
theorem dX9_goAhead_41 : decode cX9_goAhead 41 = .ok (.irem, 1) := by decide +kernel
theorem dX9_goAhead_42 : decode cX9_goAhead 42 = .ok (.invokevirtual 91, 3) := by decide +kernel
theorem dX9_goAhead_45 : decode cX9_goAhead 45 = .ok (.aload_n 0, 1) := by decide +kernel
theorem dX9_goAhead_46 : decode cX9_goAhead 46 = .ok (.iload_n 1, 1) := by decide +kernel
theorem dX9_goAhead_47 : decode cX9_goAhead 47 = .ok (.bipush 6, 2) := by decide +kernel
theorem dX9_goAhead_49 : decode cX9_goAhead 49 = .ok (.aload_n 0, 1) := by decide +kernel
theorem dX9_goAhead_50 : decode cX9_goAhead 50 = .ok (.iload_n 1, 1) := by decide +kernel
theorem dX9_goAhead_51 : decode cX9_goAhead 51 = .ok (.bipush 6, 2) := by decide +kernel
theorem dX9_goAhead_53 : decode cX9_goAhead 53 = .ok (.invokevirtual 99, 3) := by decide +kernel
theorem dX9_goAhead_56 : decode cX9_goAhead 56 = .ok (.iconst 1, 1) := by decide +kernel
theorem dX9_goAhead_57 : decode cX9_goAhead 57 = .ok (.iadd, 1) := by decide +kernel
theorem dX9_goAhead_58 : decode cX9_goAhead 58 = .ok (.invokevirtual 91, 3) := by decide +kernel
theorem dX9_goAhead_61 : decode cX9_goAhead 61 = .ok (.aload_n 0, 1) := by decide +kernel
theorem dX9_goAhead_62 : decode cX9_goAhead 62 = .ok (.getfield 7, 3) := by decide +kernel
theorem dX9_goAhead_65 : decode cX9_goAhead 65 = .ok (.bipush 8, 2) := by decide +kernel
theorem dX9_goAhead_67 : decode cX9_goAhead 67 = .ok (.dup2, 1) := by decide +kernel
theorem dX9_goAhead_68 : decode cX9_goAhead 68 = .ok (.iaload, 1) := by decide +kernel
theorem dX9_goAhead_69 : decode cX9_goAhead 69 = .ok (.iconst 1, 1) := by decide +kernel
theorem dX9_goAhead_70 : decode cX9_goAhead 70 = .ok (.iadd, 1) := by decide +kernel
theorem dX9_goAhead_71 : decode cX9_goAhead 71 = .ok (.iastore, 1) := by decide +kernel
theorem dX9_goAhead_72 : decode cX9_goAhead 72 = .ok (.aload_n 0, 1) := by decide +kernel
theorem dX9_goAhead_73 : decode cX9_goAhead 73 = .ok (.iload_n 1, 1) := by decide +kernel
theorem dX9_goAhead_74 : decode cX9_goAhead 74 = .ok (.invokevirtual 121, 3) := by decide +kernel
theorem dX9_goAhead_77 : decode cX9_goAhead 77 = .ok (.aload_n 0, 1) := by decide +kernel
theorem dX9_goAhead_78 : decode cX9_goAhead 78 = .ok (.invokevirtual 115, 3) := by decide +kernel
theorem dX9_goAhead_81 : decode cX9_goAhead 81 = .ok (.aload_n 0, 1) := by decide +kernel
theorem dX9_goAhead_82 : decode cX9_goAhead 82 = .ok (.getfield 7, 3) := by decide +kernel
theorem dX9_goAhead_85 : decode cX9_goAhead 85 = .ok (.bipush 6, 2) := by decide +kernel
theorem dX9_goAhead_87 : decode cX9_goAhead 87 = .ok (.dup2, 1) := by decide +kernel
theorem dX9_goAhead_88 : decode cX9_goAhead 88 = .ok (.iaload, 1) := by decide +kernel
theorem dX9_goAhead_89 : decode cX9_goAhead 89 = .ok (.aload_n 0, 1) := by decide +kernel
theorem dX9_goAhead_90 : decode cX9_goAhead 90 = .ok (.getfield 77, 3) := by decide +kernel
theorem dX9_goAhead_93 : decode cX9_goAhead 93 = .ok (.iload_n 2, 1) := by decide +kernel
theorem dX9_goAhead_94 : decode cX9_goAhead 94 = .ok (.if_icmp .ge 12, 3) := by decide +kernel
theorem dX9_goAhead_97 : decode cX9_goAhead 97 = .ok (.iload_n 2, 1) := by decide +kernel
theorem dX9_goAhead_98 : decode cX9_goAhead 98 = .ok (.aload_n 0, 1) := by decide +kernel
theorem dX9_goAhead_99 : decode cX9_goAhead 99 = .ok (.getfield 77, 3) := by decide +kernel
theorem dX9_goAhead_102 : decode cX9_goAhead 102 = .ok (.isub, 1) := by decide +kernel
theorem dX9_goAhead_103 : decode cX9_goAhead 103 = .ok (.goto 4, 3) := by decide +kernel
theorem dX9_goAhead_106 : decode cX9_goAhead 106 = .ok (.iconst 0, 1) := by decide +kernel
theorem dX9_goAhead_107 : decode cX9_goAhead 107 = .ok (.iadd, 1) := by decide +kernel
theorem dX9_goAhead_108 : decode cX9_goAhead 108 = .ok (.iastore, 1) := by decide +kernel
theorem dX9_goAhead_109 : decode cX9_goAhead 109 = .ok (.aload_n 0, 1) := by decide +kernel
theorem dX9_goAhead_110 : decode cX9_goAhead 110 = .ok (.getfield 7, 3) := by decide +kernel
theorem dX9_goAhead_113 : decode cX9_goAhead 113 = .ok (.bipush 7, 2) := by decide +kernel
theorem dX9_goAhead_115 : decode cX9_goAhead 115 = .ok (.dup2, 1) := by decide +kernel
theorem dX9_goAhead_116 : decode cX9_goAhead 116 = .ok (.iaload, 1) := by decide +kernel
theorem dX9_goAhead_117 : decode cX9_goAhead 117 = .ok (.aload_n 0, 1) := by decide +kernel
theorem dX9_goAhead_118 : decode cX9_goAhead 118 = .ok (.getfield 77, 3) := by decide +kernel
theorem dX9_goAhead_121 : decode cX9_goAhead 121 = .ok (.iload_n 2, 1) := by decide +kernel
theorem dX9_goAhead_122 : decode cX9_goAhead 122 = .ok (.if_icmp .le 12, 3) := by decide +kernel
theorem dX9_goAhead_125 : decode cX9_goAhead 125 = .ok (.aload_n 0, 1) := by decide +kernel
theorem dX9_goAhead_126 : decode cX9_goAhead 126 = .ok (.getfield 77, 3) := by decide +kernel
theorem dX9_goAhead_129 : decode cX9_goAhead 129 = .ok (.iload_n 2, 1) := by decide +kernel
theorem dX9_goAhead_130 : decode cX9_goAhead 130 = .ok (.isub, 1) := by decide +kernel
theorem dX9_goAhead_131 : decode cX9_goAhead 131 = .ok (.goto 4, 3) := by decide +kernel
theorem dX9_goAhead_134 : decode cX9_goAhead 134 = .ok (.iconst 0, 1) := by decide +kernel
theorem dX9_goAhead_135 : decode cX9_goAhead 135 = .ok (.iadd, 1) := by decide +kernel
theorem dX9_goAhead_136 : decode cX9_goAhead 136 = .ok (.iastore, 1) := by decide +kernel
theorem dX9_goAhead_137 : decode cX9_goAhead 137 = .ok (.return_, 1) := by decide +kernel
theorem dX9_step_0 : decode cX9_step 0 = .ok (.aload_n 0, 1) := by decide +kernel
theorem dX9_step_1 : decode cX9_step 1 = .ok (.iload_n 1, 1) := by decide +kernel
theorem dX9_step_2 : decode cX9_step 2 = .ok (.iconst 2, 1) := by decide +kernel
theorem dX9_step_3 : decode cX9_step 3 = .ok (.aload_n 0, 1) := by decide +kernel
theorem dX9_step_4 : decode cX9_step 4 = .ok (.iload_n 1, 1) := by decide +kernel
theorem dX9_step_5 : decode cX9_step 5 = .ok (.iconst 2, 1) := by decide +kernel
theorem dX9_step_6 : decode cX9_step 6 = .ok (.invokevirtual 99, 3) := by decide +kernel
theorem dX9_step_9 : decode cX9_step 9 = .ok (.aload_n 0, 1) := by decide +kernel
theorem dX9_step_10 : decode cX9_step 10 = .ok (.invokevirtual 124, 3) := by decide +kernel
theorem dX9_step_13 : decode cX9_step 13 = .ok (.iadd, 1) := by decide +kernel
theorem dX9_step_14 : decode cX9_step 14 = .ok (.iconst 4, 1) := by decide +kernel
theorem dX9_step_15 : decode cX9_step 15 = .ok (.irem, 1) := by decide +kernel
theorem dX9_step_16 : decode cX9_step 16 = .ok (.invokevirtual 91, 3) := by decide +kernel
theorem dX9_step_19 : decode cX9_step 19 = .ok (.aload_n 0, 1) := by decide +kernel
theorem dX9_step_20 : decode cX9_step 20 = .ok (.aload_n 0, 1) := by decide +kernel
theorem dX9_step_21 : decode cX9_step 21 = .ok (.iload_n 1, 1) := by decide +kernel
theorem dX9_step_22 : decode cX9_step 22 = .ok (.invokevirtual 102, 3) := by decide +kernel
theorem dX9_step_25 : decode cX9_step 25 = .ok (.aload_n 0, 1) := by decide +kernel
theorem dX9_step_26 : decode cX9_step 26 = .ok (.iload_n 1, 1) := by decide +kernel
theorem dX9_step_27 : decode cX9_step 27 = .ok (.iconst 2, 1) := by decide +kernel
theorem dX9_step_28 : decode cX9_step 28 = .ok (.invokevirtual 99, 3) := by decide +kernel
theorem dX9_step_31 : decode cX9_step 31 = .ok (.invokevirtual 80, 3) := by decide +kernel
theorem dX9_step_34 : decode cX9_step 34 = .ok (.ifCond .ge 22, 3) := by decide +kernel
theorem dX9_step_37 : decode cX9_step 37 = .ok (.aload_n 0, 1) := by decide +kernel
theorem dX9_step_38 : decode cX9_step 38 = .ok (.iload_n 1, 1) := by decide +kernel
theorem dX9_step_39 : decode cX9_step 39 = .ok (.iconst 2, 1) := by decide +kernel
theorem dX9_step_40 : decode cX9_step 40 = .ok (.aload_n 0, 1) := by decide +kernel
theorem dX9_step_41 : decode cX9_step 41 = .ok (.iload_n 1, 1) := by decide +kernel
theorem dX9_step_42 : decode cX9_step 42 = .ok (.iconst 2, 1) := by decide +kernel
theorem dX9_step_43 : decode cX9_step 43 = .ok (.invokevirtual 99, 3) := by decide +kernel
theorem dX9_step_46 : decode cX9_step 46 = .ok (.iconst 1, 1) := by decide +kernel
theorem dX9_step_47 : decode cX9_step 47 = .ok (.iadd, 1) := by decide +kernel
theorem dX9_step_48 : decode cX9_step 48 = .ok (.iconst 4, 1) := by decide +kernel
theorem dX9_step_49 : decode cX9_step 49 = .ok (.irem, 1) := by decide +kernel
theorem dX9_step_50 : decode cX9_step 50 = .ok (.invokevirtual 91, 3) := by decide +kernel
theorem dX9_step_53 : decode cX9_step 53 = .ok (.goto (-34), 3) := by decide +kernel
theorem dX9_step_56 : decode cX9_step 56 = .ok (.aload_n 0, 1) := by decide +kernel
theorem dX9_step_57 : decode cX9_step 57 = .ok (.iload_n 1, 1) := by decide +kernel
theorem dX9_step_58 : decode cX9_step 58 = .ok (.invokevirtual 127, 3) := by decide +kernel
theorem dX9_step_61 : decode cX9_step 61 = .ok (.return_, 1) := by decide +kernel
theorem dX9_oneRound_0 : decode cX9_oneRound 0 = .ok (.iconst 0, 1) := by decide +kernel
theorem dX9_oneRound_1 : decode cX9_oneRound 1 = .ok (.istore_n 1, 1) := by decide +kernel
theorem dX9_oneRound_2 : decode cX9_oneRound 2 = .ok (.iload_n 1, 1) := by decide +kernel
theorem dX9_oneRound_3 : decode cX9_oneRound 3 = .ok (.aload_n 0, 1) := by decide +kernel
theorem dX9_oneRound_4 : decode cX9_oneRound 4 = .ok (.getfield 7, 3) := by decide +kernel
theorem dX9_oneRound_7 : decode cX9_oneRound 7 = .ok (.iconst 2, 1) := by decide +kernel
theorem dX9_oneRound_8 : decode cX9_oneRound 8 = .ok (.iaload, 1) := by decide +kernel
theorem dX9_oneRound_9 : decode cX9_oneRound 9 = .ok (.if_icmp .ge 14, 3) := by decide +kernel
theorem dX9_oneRound_12 : decode cX9_oneRound 12 = .ok (.aload_n 0, 1) := by decide +kernel
theorem dX9_oneRound_13 : decode cX9_oneRound 13 = .ok (.iload_n 1, 1) := by decide +kernel
theorem dX9_oneRound_14 : decode cX9_oneRound 14 = .ok (.invokevirtual 130, 3) := by decide +kernel
theorem dX9_oneRound_17 : decode cX9_oneRound 17 = .ok (.iinc 1 1, 3) := by decide +kernel
theorem dX9_oneRound_20 : decode cX9_oneRound 20 = .ok (.goto (-18), 3) := by decide +kernel
theorem dX9_oneRound_23 : decode cX9_oneRound 23 = .ok (.return_, 1) := by decide +kernel
theorem dX9_walk_0 : decode cX9_walk 0 = .ok (.aload_n 0, 1) := by decide +kernel
theorem dX9_walk_1 : decode cX9_walk 1 = .ok (.iload_n 1, 1) := by decide +kernel
theorem dX9_walk_2 : decode cX9_walk 2 = .ok (.invokevirtual 95, 3) := by decide +kernel
theorem dX9_walk_5 : decode cX9_walk 5 = .ok (.ifCond .eq 5, 3) := by decide +kernel
theorem dX9_walk_8 : decode cX9_walk 8 = .ok (.iconst (-1), 1) := by decide +kernel
theorem dX9_walk_9 : decode cX9_walk 9 = .ok (.ireturn, 1) := by decide +kernel
theorem dX9_walk_10 : decode cX9_walk 10 = .ok (.iload_n 2, 1) := by decide +kernel
theorem dX9_walk_11 : decode cX9_walk 11 = .ok (.iconst 1, 1) := by decide +kernel
theorem dX9_walk_12 : decode cX9_walk 12 = .ok (.bipush 100, 2) := by decide +kernel
theorem dX9_walk_14 : decode cX9_walk 14 = .ok (.invokestatic 58, 3) := by decide +kernel
theorem dX9_walk_17 : decode cX9_walk 17 = .ok (.ifCond .ne 6, 3) := by decide +kernel
theorem dX9_walk_20 : decode cX9_walk 20 = .ok (.bipush (-2), 2) := by decide +kernel
theorem dX9_walk_22 : decode cX9_walk 22 = .ok (.ireturn, 1) := by decide +kernel
theorem dX9_walk_23 : decode cX9_walk 23 = .ok (.aload_n 0, 1) := by decide +kernel
theorem dX9_walk_24 : decode cX9_walk 24 = .ok (.invokevirtual 66, 3) := by decide +kernel
theorem dX9_walk_27 : decode cX9_walk 27 = .ok (.iconst 0, 1) := by decide +kernel
theorem dX9_walk_28 : decode cX9_walk 28 = .ok (.istore_n 3, 1) := by decide +kernel
theorem dX9_walk_29 : decode cX9_walk 29 = .ok (.iload_n 3, 1) := by decide +kernel
theorem dX9_walk_30 : decode cX9_walk 30 = .ok (.iload_n 2, 1) := by decide +kernel
theorem dX9_walk_31 : decode cX9_walk 31 = .ok (.if_icmp .ge 14, 3) := by decide +kernel
theorem dX9_walk_34 : decode cX9_walk 34 = .ok (.aload_n 0, 1) := by decide +kernel
theorem dX9_walk_35 : decode cX9_walk 35 = .ok (.iload_n 1, 1) := by decide +kernel
theorem dX9_walk_36 : decode cX9_walk 36 = .ok (.invokevirtual 130, 3) := by decide +kernel
theorem dX9_walk_39 : decode cX9_walk 39 = .ok (.iinc 3 1, 3) := by decide +kernel
theorem dX9_walk_42 : decode cX9_walk 42 = .ok (.goto (-13), 3) := by decide +kernel
theorem dX9_walk_45 : decode cX9_walk 45 = .ok (.aload_n 0, 1) := by decide +kernel
theorem dX9_walk_46 : decode cX9_walk 46 = .ok (.aload_n 0, 1) := by decide +kernel
theorem dX9_walk_47 : decode cX9_walk 47 = .ok (.iload_n 1, 1) := by decide +kernel
theorem dX9_walk_48 : decode cX9_walk 48 = .ok (.iconst 3, 1) := by decide +kernel
theorem dX9_walk_49 : decode cX9_walk 49 = .ok (.invokevirtual 99, 3) := by decide +kernel
theorem dX9_walk_52 : decode cX9_walk 52 = .ok (.invokevirtual 69, 3) := by decide +kernel
theorem dX9_walk_55 : decode cX9_walk 55 = .ok (.ireturn, 1) := by decide +kernel
theorem dX9_rounds_0 : decode cX9_rounds 0 = .ok (.iload_n 1, 1) := by decide +kernel
theorem dX9_rounds_1 : decode cX9_rounds 1 = .ok (.iconst 1, 1) := by decide +kernel
theorem dX9_rounds_2 : decode cX9_rounds 2 = .ok (.bipush 50, 2) := by decide +kernel
theorem dX9_rounds_4 : decode cX9_rounds 4 = .ok (.invokestatic 58, 3) := by decide +kernel
theorem dX9_rounds_7 : decode cX9_rounds 7 = .ok (.ifCond .ne 6, 3) := by decide +kernel
theorem dX9_rounds_10 : decode cX9_rounds 10 = .ok (.bipush (-2), 2) := by decide +kernel
theorem dX9_rounds_12 : decode cX9_rounds 12 = .ok (.ireturn, 1) := by decide +kernel
theorem dX9_rounds_13 : decode cX9_rounds 13 = .ok (.aload_n 0, 1) := by decide +kernel
theorem dX9_rounds_14 : decode cX9_rounds 14 = .ok (.getfield 7, 3) := by decide +kernel
theorem dX9_rounds_17 : decode cX9_rounds 17 = .ok (.iconst 2, 1) := by decide +kernel
theorem dX9_rounds_18 : decode cX9_rounds 18 = .ok (.iaload, 1) := by decide +kernel
theorem dX9_rounds_19 : decode cX9_rounds 19 = .ok (.ifCond .ne 6, 3) := by decide +kernel
theorem dX9_rounds_22 : decode cX9_rounds 22 = .ok (.bipush (-5), 2) := by decide +kernel
theorem dX9_rounds_24 : decode cX9_rounds 24 = .ok (.ireturn, 1) := by decide +kernel
theorem dX9_rounds_25 : decode cX9_rounds 25 = .ok (.aload_n 0, 1) := by decide +kernel
theorem dX9_rounds_26 : decode cX9_rounds 26 = .ok (.invokevirtual 66, 3) := by decide +kernel
theorem dX9_rounds_29 : decode cX9_rounds 29 = .ok (.iconst 0, 1) := by decide +kernel
theorem dX9_rounds_30 : decode cX9_rounds 30 = .ok (.istore_n 2, 1) := by decide +kernel
theorem dX9_rounds_31 : decode cX9_rounds 31 = .ok (.iload_n 2, 1) := by decide +kernel
theorem dX9_rounds_32 : decode cX9_rounds 32 = .ok (.iload_n 1, 1) := by decide +kernel
theorem dX9_rounds_33 : decode cX9_rounds 33 = .ok (.if_icmp .ge 13, 3) := by decide +kernel
theorem dX9_rounds_36 : decode cX9_rounds 36 = .ok (.aload_n 0, 1) := by decide +kernel
theorem dX9_rounds_37 : decode cX9_rounds 37 = .ok (.invokevirtual 133, 3) := by decide +kernel
theorem dX9_rounds_40 : decode cX9_rounds 40 = .ok (.iinc 2 1, 3) := by decide +kernel
theorem dX9_rounds_43 : decode cX9_rounds 43 = .ok (.goto (-12), 3) := by decide +kernel
theorem dX9_rounds_46 : decode cX9_rounds 46 = .ok (.aload_n 0, 1) := by decide +kernel
theorem dX9_rounds_47 : decode cX9_rounds 47 = .ok (.invokevirtual 115, 3) := by decide +kernel
theorem dX9_rounds_50 : decode cX9_rounds 50 = .ok (.aload_n 0, 1) := by decide +kernel
theorem dX9_rounds_51 : decode cX9_rounds 51 = .ok (.aload_n 0, 1) := by decide +kernel
theorem dX9_rounds_52 : decode cX9_rounds 52 = .ok (.getfield 77, 3) := by decide +kernel
theorem dX9_rounds_55 : decode cX9_rounds 55 = .ok (.invokevirtual 69, 3) := by decide +kernel
theorem dX9_rounds_58 : decode cX9_rounds 58 = .ok (.ireturn, 1) := by decide +kernel
theorem dX9_roundsUntil_0 : decode cX9_roundsUntil 0 = .ok (.iload_n 1, 1) := by decide +kernel
theorem dX9_roundsUntil_1 : decode cX9_roundsUntil 1 = .ok (.iconst 0, 1) := by decide +kernel
theorem dX9_roundsUntil_2 : decode cX9_roundsUntil 2 = .ok (.sipush 256, 3) := by decide +kernel
theorem dX9_roundsUntil_5 : decode cX9_roundsUntil 5 = .ok (.invokestatic 58, 3) := by decide +kernel
theorem dX9_roundsUntil_8 : decode cX9_roundsUntil 8 = .ok (.ifCond .ne 6, 3) := by decide +kernel
theorem dX9_roundsUntil_11 : decode cX9_roundsUntil 11 = .ok (.bipush (-2), 2) := by decide +kernel
theorem dX9_roundsUntil_13 : decode cX9_roundsUntil 13 = .ok (.ireturn, 1) := by decide +kernel
theorem dX9_roundsUntil_14 : decode cX9_roundsUntil 14 = .ok (.aload_n 0, 1) := by decide +kernel
theorem dX9_roundsUntil_15 : decode cX9_roundsUntil 15 = .ok (.invokevirtual 115, 3) := by decide +kernel
theorem dX9_roundsUntil_18 : decode cX9_roundsUntil 18 = .ok (.aload_n 0, 1) := by decide +kernel
theorem dX9_roundsUntil_19 : decode cX9_roundsUntil 19 = .ok (.getfield 77, 3) := by decide +kernel
theorem dX9_roundsUntil_22 : decode cX9_roundsUntil 22 = .ok (.iload_n 1, 1) := by decide +kernel
theorem dX9_roundsUntil_23 : decode cX9_roundsUntil 23 = .ok (.if_icmp .le 15, 3) := by decide +kernel
theorem dX9_roundsUntil_26 : decode cX9_roundsUntil 26 = .ok (.aload_n 0, 1) := by decide +kernel
theorem dX9_roundsUntil_27 : decode cX9_roundsUntil 27 = .ok (.getfield 7, 3) := by decide +kernel
theorem dX9_roundsUntil_30 : decode cX9_roundsUntil 30 = .ok (.iconst 2, 1) := by decide +kernel
theorem dX9_roundsUntil_31 : decode cX9_roundsUntil 31 = .ok (.iaload, 1) := by decide +kernel
theorem dX9_roundsUntil_32 : decode cX9_roundsUntil 32 = .ok (.ifCond .ne 6, 3) := by decide +kernel
theorem dX9_roundsUntil_35 : decode cX9_roundsUntil 35 = .ok (.bipush (-5), 2) := by decide +kernel
theorem dX9_roundsUntil_37 : decode cX9_roundsUntil 37 = .ok (.ireturn, 1) := by decide +kernel
theorem dX9_roundsUntil_38 : decode cX9_roundsUntil 38 = .ok (.aload_n 0, 1) := by decide +kernel
theorem dX9_roundsUntil_39 : decode cX9_roundsUntil 39 = .ok (.invokevirtual 66, 3) := by decide +kernel
theorem dX9_roundsUntil_42 : decode cX9_roundsUntil 42 = .ok (.iconst 0, 1) := by decide +kernel
theorem dX9_roundsUntil_43 : decode cX9_roundsUntil 43 = .ok (.istore_n 2, 1) := by decide +kernel
theorem dX9_roundsUntil_44 : decode cX9_roundsUntil 44 = .ok (.aload_n 0, 1) := by decide +kernel
theorem dX9_roundsUntil_45 : decode cX9_roundsUntil 45 = .ok (.getfield 77, 3) := by decide +kernel
theorem dX9_roundsUntil_48 : decode cX9_roundsUntil 48 = .ok (.iload_n 1, 1) := by decide +kernel
theorem dX9_roundsUntil_49 : decode cX9_roundsUntil 49 = .ok (.if_icmp .le 24, 3) := by decide +kernel
theorem dX9_roundsUntil_52 : decode cX9_roundsUntil 52 = .ok (.iload_n 2, 1) := by decide +kernel
theorem dX9_roundsUntil_53 : decode cX9_roundsUntil 53 = .ok (.sipush 200, 3) := by decide +kernel
theorem dX9_roundsUntil_56 : decode cX9_roundsUntil 56 = .ok (.if_icmp .ge 17, 3) := by decide +kernel
theorem dX9_roundsUntil_59 : decode cX9_roundsUntil 59 = .ok (.aload_n 0, 1) := by decide +kernel
theorem dX9_roundsUntil_60 : decode cX9_roundsUntil 60 = .ok (.invokevirtual 133, 3) := by decide +kernel
theorem dX9_roundsUntil_63 : decode cX9_roundsUntil 63 = .ok (.aload_n 0, 1) := by decide +kernel
theorem dX9_roundsUntil_64 : decode cX9_roundsUntil 64 = .ok (.invokevirtual 115, 3) := by decide +kernel
theorem dX9_roundsUntil_67 : decode cX9_roundsUntil 67 = .ok (.iinc 2 1, 3) := by decide +kernel
theorem dX9_roundsUntil_70 : decode cX9_roundsUntil 70 = .ok (.goto (-26), 3) := by decide +kernel
theorem dX9_roundsUntil_73 : decode cX9_roundsUntil 73 = .ok (.aload_n 0, 1) := by decide +kernel
theorem dX9_roundsUntil_74 : decode cX9_roundsUntil 74 = .ok (.getfield 77, 3) := by decide +kernel
theorem dX9_roundsUntil_77 : decode cX9_roundsUntil 77 = .ok (.iload_n 1, 1) := by decide +kernel
theorem dX9_roundsUntil_78 : decode cX9_roundsUntil 78 = .ok (.if_icmp .gt 7, 3) := by decide +kernel
theorem dX9_roundsUntil_81 : decode cX9_roundsUntil 81 = .ok (.iconst 1, 1) := by decide +kernel
theorem dX9_roundsUntil_82 : decode cX9_roundsUntil 82 = .ok (.goto 4, 3) := by decide +kernel
theorem dX9_roundsUntil_85 : decode cX9_roundsUntil 85 = .ok (.iconst 0, 1) := by decide +kernel
theorem dX9_roundsUntil_86 : decode cX9_roundsUntil 86 = .ok (.istore_n 3, 1) := by decide +kernel
theorem dX9_roundsUntil_87 : decode cX9_roundsUntil 87 = .ok (.aload_n 0, 1) := by decide +kernel
theorem dX9_roundsUntil_88 : decode cX9_roundsUntil 88 = .ok (.invokevirtual 136, 3) := by decide +kernel
theorem dX9_roundsUntil_91 : decode cX9_roundsUntil 91 = .ok (.iload_n 3, 1) := by decide +kernel
theorem dX9_roundsUntil_92 : decode cX9_roundsUntil 92 = .ok (.ifCond .eq 7, 3) := by decide +kernel
theorem dX9_roundsUntil_95 : decode cX9_roundsUntil 95 = .ok (.iload_n 2, 1) := by decide +kernel
theorem dX9_roundsUntil_96 : decode cX9_roundsUntil 96 = .ok (.goto 5, 3) := by decide +kernel
theorem dX9_roundsUntil_99 : decode cX9_roundsUntil 99 = .ok (.bipush (-5), 2) := by decide +kernel
theorem dX9_roundsUntil_101 : decode cX9_roundsUntil 101 = .ok (.ireturn, 1) := by decide +kernel
theorem dX9_type_0 : decode cX9_type 0 = .ok (.aload_n 0, 1) := by decide +kernel
theorem dX9_type_1 : decode cX9_type 1 = .ok (.getfield 139, 3) := by decide +kernel
theorem dX9_type_4 : decode cX9_type 4 = .ok (.bipush 40, 2) := by decide +kernel
theorem dX9_type_6 : decode cX9_type 6 = .ok (.if_icmp .ne 6, 3) := by decide +kernel
theorem dX9_type_9 : decode cX9_type 9 = .ok (.bipush (-3), 2) := by decide +kernel
theorem dX9_type_11 : decode cX9_type 11 = .ok (.ireturn, 1) := by decide +kernel
theorem dX9_type_12 : decode cX9_type 12 = .ok (.aload_n 0, 1) := by decide +kernel
theorem dX9_type_13 : decode cX9_type 13 = .ok (.getfield 44, 3) := by decide +kernel
theorem dX9_type_16 : decode cX9_type 16 = .ok (.aload_n 0, 1) := by decide +kernel
theorem dX9_type_17 : decode cX9_type 17 = .ok (.getfield 139, 3) := by decide +kernel
theorem dX9_type_20 : decode cX9_type 20 = .ok (.iload_n 1, 1) := by decide +kernel
theorem dX9_type_21 : decode cX9_type 21 = .ok (.castore, 1) := by decide +kernel
theorem dX9_type_22 : decode cX9_type 22 = .ok (.aload_n 0, 1) := by decide +kernel
theorem dX9_type_23 : decode cX9_type 23 = .ok (.dup, 1) := by decide +kernel
theorem dX9_type_24 : decode cX9_type 24 = .ok (.getfield 139, 3) := by decide +kernel
theorem dX9_type_27 : decode cX9_type 27 = .ok (.iconst 1, 1) := by decide +kernel
theorem dX9_type_28 : decode cX9_type 28 = .ok (.iadd, 1) := by decide +kernel
theorem dX9_type_29 : decode cX9_type 29 = .ok (.putfield 139, 3) := by decide +kernel
theorem dX9_type_32 : decode cX9_type 32 = .ok (.aload_n 0, 1) := by decide +kernel
theorem dX9_type_33 : decode cX9_type 33 = .ok (.getfield 139, 3) := by decide +kernel
theorem dX9_type_36 : decode cX9_type 36 = .ok (.ireturn, 1) := by decide +kernel
theorem dX9_clearText_0 : decode cX9_clearText 0 = .ok (.aload_n 0, 1) := by decide +kernel
theorem dX9_clearText_1 : decode cX9_clearText 1 = .ok (.getfield 139, 3) := by decide +kernel
theorem dX9_clearText_4 : decode cX9_clearText 4 = .ok (.istore_n 1, 1) := by decide +kernel
theorem dX9_clearText_5 : decode cX9_clearText 5 = .ok (.aload_n 0, 1) := by decide +kernel
theorem dX9_clearText_6 : decode cX9_clearText 6 = .ok (.iconst 0, 1) := by decide +kernel
theorem dX9_clearText_7 : decode cX9_clearText 7 = .ok (.putfield 139, 3) := by decide +kernel
theorem dX9_clearText_10 : decode cX9_clearText 10 = .ok (.iload_n 1, 1) := by decide +kernel
theorem dX9_clearText_11 : decode cX9_clearText 11 = .ok (.ireturn, 1) := by decide +kernel
theorem dX9_directionOf_0 : decode cX9_directionOf 0 = .ok (.iload_n 0, 1) := by decide +kernel
theorem dX9_directionOf_1 : decode cX9_directionOf 1 = .ok (.bipush 110, 2) := by decide +kernel
theorem dX9_directionOf_3 : decode cX9_directionOf 3 = .ok (.if_icmp .ne 7, 3) := by decide +kernel
theorem dX9_directionOf_6 : decode cX9_directionOf 6 = .ok (.iconst 0, 1) := by decide +kernel
theorem dX9_directionOf_7 : decode cX9_directionOf 7 = .ok (.goto 35, 3) := by decide +kernel
theorem dX9_directionOf_10 : decode cX9_directionOf 10 = .ok (.iload_n 0, 1) := by decide +kernel
theorem dX9_directionOf_11 : decode cX9_directionOf 11 = .ok (.bipush 101, 2) := by decide +kernel
theorem dX9_directionOf_13 : decode cX9_directionOf 13 = .ok (.if_icmp .ne 7, 3) := by decide +kernel
theorem dX9_directionOf_16 : decode cX9_directionOf 16 = .ok (.iconst 1, 1) := by decide +kernel
theorem dX9_directionOf_17 : decode cX9_directionOf 17 = .ok (.goto 25, 3) := by decide +kernel
theorem dX9_directionOf_20 : decode cX9_directionOf 20 = .ok (.iload_n 0, 1) := by decide +kernel
theorem dX9_directionOf_21 : decode cX9_directionOf 21 = .ok (.bipush 115, 2) := by decide +kernel
theorem dX9_directionOf_23 : decode cX9_directionOf 23 = .ok (.if_icmp .ne 7, 3) := by decide +kernel
theorem dX9_directionOf_26 : decode cX9_directionOf 26 = .ok (.iconst 2, 1) := by decide +kernel
theorem dX9_directionOf_27 : decode cX9_directionOf 27 = .ok (.goto 15, 3) := by decide +kernel
theorem dX9_directionOf_30 : decode cX9_directionOf 30 = .ok (.iload_n 0, 1) := by decide +kernel
theorem dX9_directionOf_31 : decode cX9_directionOf 31 = .ok (.bipush 119, 2) := by decide +kernel
theorem dX9_directionOf_33 : decode cX9_directionOf 33 = .ok (.if_icmp .ne 7, 3) := by decide +kernel
theorem dX9_directionOf_36 : decode cX9_directionOf 36 = .ok (.iconst 3, 1) := by decide +kernel
theorem dX9_directionOf_37 : decode cX9_directionOf 37 = .ok (.goto 5, 3) := by decide +kernel
theorem dX9_directionOf_40 : decode cX9_directionOf 40 = .ok (.bipush (-5), 2) := by decide +kernel
theorem dX9_directionOf_42 : decode cX9_directionOf 42 = .ok (.ireturn, 1) := by decide +kernel
theorem dX9_isLetter_0 : decode cX9_isLetter 0 = .ok (.iload_n 1, 1) := by decide +kernel
theorem dX9_isLetter_1 : decode cX9_isLetter 1 = .ok (.bipush 114, 2) := by decide +kernel
theorem dX9_isLetter_3 : decode cX9_isLetter 3 = .ok (.if_icmp .eq 37, 3) := by decide +kernel
theorem dX9_isLetter_6 : decode cX9_isLetter 6 = .ok (.iload_n 1, 1) := by decide +kernel
theorem dX9_isLetter_7 : decode cX9_isLetter 7 = .ok (.bipush 35, 2) := by decide +kernel
theorem dX9_isLetter_9 : decode cX9_isLetter 9 = .ok (.if_icmp .eq 31, 3) := by decide +kernel
theorem dX9_isLetter_12 : decode cX9_isLetter 12 = .ok (.aload_n 0, 1) := by decide +kernel
theorem dX9_isLetter_13 : decode cX9_isLetter 13 = .ok (.getfield 7, 3) := by decide +kernel
theorem dX9_isLetter_16 : decode cX9_isLetter 16 = .ok (.iconst 2, 1) := by decide +kernel
theorem dX9_isLetter_17 : decode cX9_isLetter 17 = .ok (.iaload, 1) := by decide +kernel
theorem dX9_isLetter_18 : decode cX9_isLetter 18 = .ok (.ifCond .le 26, 3) := by decide +kernel
theorem dX9_isLetter_21 : decode cX9_isLetter 21 = .ok (.iload_n 1, 1) := by decide +kernel
theorem dX9_isLetter_22 : decode cX9_isLetter 22 = .ok (.invokestatic 142, 3) := by decide +kernel
theorem dX9_isLetter_25 : decode cX9_isLetter 25 = .ok (.ifCond .ge 15, 3) := by decide +kernel
theorem dX9_isLetter_28 : decode cX9_isLetter 28 = .ok (.iload_n 1, 1) := by decide +kernel
theorem dX9_isLetter_29 : decode cX9_isLetter 29 = .ok (.bipush 103, 2) := by decide +kernel
theorem dX9_isLetter_31 : decode cX9_isLetter 31 = .ok (.if_icmp .eq 9, 3) := by decide +kernel
theorem dX9_isLetter_34 : decode cX9_isLetter 34 = .ok (.iload_n 1, 1) := by decide +kernel
theorem dX9_isLetter_35 : decode cX9_isLetter 35 = .ok (.bipush 100, 2) := by decide +kernel
theorem dX9_isLetter_37 : decode cX9_isLetter 37 = .ok (.if_icmp .ne 7, 3) := by decide +kernel
theorem dX9_isLetter_40 : decode cX9_isLetter 40 = .ok (.iconst 1, 1) := by decide +kernel
theorem dX9_isLetter_41 : decode cX9_isLetter 41 = .ok (.goto 4, 3) := by decide +kernel
theorem dX9_isLetter_44 : decode cX9_isLetter 44 = .ok (.iconst 0, 1) := by decide +kernel
theorem dX9_isLetter_45 : decode cX9_isLetter 45 = .ok (.ireturn, 1) := by decide +kernel
theorem dX9_isDigit_0 : decode cX9_isDigit 0 = .ok (.iload_n 1, 1) := by decide +kernel
theorem dX9_isDigit_1 : decode cX9_isDigit 1 = .ok (.aload_n 0, 1) := by decide +kernel
theorem dX9_isDigit_2 : decode cX9_isDigit 2 = .ok (.getfield 139, 3) := by decide +kernel
theorem dX9_isDigit_5 : decode cX9_isDigit 5 = .ok (.if_icmp .ge 29, 3) := by decide +kernel
theorem dX9_isDigit_8 : decode cX9_isDigit 8 = .ok (.aload_n 0, 1) := by decide +kernel
theorem dX9_isDigit_9 : decode cX9_isDigit 9 = .ok (.getfield 44, 3) := by decide +kernel
theorem dX9_isDigit_12 : decode cX9_isDigit 12 = .ok (.iload_n 1, 1) := by decide +kernel
theorem dX9_isDigit_13 : decode cX9_isDigit 13 = .ok (.caload, 1) := by decide +kernel
theorem dX9_isDigit_14 : decode cX9_isDigit 14 = .ok (.bipush 48, 2) := by decide +kernel
theorem dX9_isDigit_16 : decode cX9_isDigit 16 = .ok (.if_icmp .lt 18, 3) := by decide +kernel
theorem dX9_isDigit_19 : decode cX9_isDigit 19 = .ok (.aload_n 0, 1) := by decide +kernel
theorem dX9_isDigit_20 : decode cX9_isDigit 20 = .ok (.getfield 44, 3) := by decide +kernel
theorem dX9_isDigit_23 : decode cX9_isDigit 23 = .ok (.iload_n 1, 1) := by decide +kernel
theorem dX9_isDigit_24 : decode cX9_isDigit 24 = .ok (.caload, 1) := by decide +kernel
theorem dX9_isDigit_25 : decode cX9_isDigit 25 = .ok (.bipush 57, 2) := by decide +kernel
theorem dX9_isDigit_27 : decode cX9_isDigit 27 = .ok (.if_icmp .gt 7, 3) := by decide +kernel
theorem dX9_isDigit_30 : decode cX9_isDigit 30 = .ok (.iconst 1, 1) := by decide +kernel
theorem dX9_isDigit_31 : decode cX9_isDigit 31 = .ok (.goto 4, 3) := by decide +kernel
theorem dX9_isDigit_34 : decode cX9_isDigit 34 = .ok (.iconst 0, 1) := by decide +kernel
theorem dX9_isDigit_35 : decode cX9_isDigit 35 = .ok (.ireturn, 1) := by decide +kernel
theorem dX9_readPlan_0 : decode cX9_readPlan 0 = .ok (.aload_n 0, 1) := by decide +kernel
theorem dX9_readPlan_1 : decode cX9_readPlan 1 = .ok (.iconst 0, 1) := by decide +kernel
theorem dX9_readPlan_2 : decode cX9_readPlan 2 = .ok (.putfield 146, 3) := by decide +kernel
theorem dX9_readPlan_5 : decode cX9_readPlan 5 = .ok (.iconst 0, 1) := by decide +kernel
theorem dX9_readPlan_6 : decode cX9_readPlan 6 = .ok (.istore_n 1, 1) := by decide +kernel
theorem dX9_readPlan_7 : decode cX9_readPlan 7 = .ok (.iload_n 1, 1) := by decide +kernel
theorem dX9_readPlan_8 : decode cX9_readPlan 8 = .ok (.aload_n 0, 1) := by decide +kernel
theorem dX9_readPlan_9 : decode cX9_readPlan 9 = .ok (.getfield 139, 3) := by decide +kernel
theorem dX9_readPlan_12 : decode cX9_readPlan 12 = .ok (.if_icmp .lt 7, 3) := by decide +kernel
theorem dX9_readPlan_15 : decode cX9_readPlan 15 = .ok (.iload_n 1, 1) := by decide +kernel
theorem dX9_readPlan_16 : decode cX9_readPlan 16 = .ok (.ifCond .ne 232, 3) := by decide +kernel
theorem dX9_readPlan_19 : decode cX9_readPlan 19 = .ok (.iload_n 1, 1) := by decide +kernel
theorem dX9_readPlan_20 : decode cX9_readPlan 20 = .ok (.aload_n 0, 1) := by decide +kernel
theorem dX9_readPlan_21 : decode cX9_readPlan 21 = .ok (.getfield 139, 3) := by decide +kernel
theorem dX9_readPlan_24 : decode cX9_readPlan 24 = .ok (.if_icmp .eq 16, 3) := by decide +kernel
theorem dX9_readPlan_27 : decode cX9_readPlan 27 = .ok (.aload_n 0, 1) := by decide +kernel
theorem dX9_readPlan_28 : decode cX9_readPlan 28 = .ok (.aload_n 0, 1) := by decide +kernel
theorem dX9_readPlan_29 : decode cX9_readPlan 29 = .ok (.getfield 44, 3) := by decide +kernel
theorem dX9_readPlan_32 : decode cX9_readPlan 32 = .ok (.iload_n 1, 1) := by decide +kernel
theorem dX9_readPlan_33 : decode cX9_readPlan 33 = .ok (.caload, 1) := by decide +kernel
theorem dX9_readPlan_34 : decode cX9_readPlan 34 = .ok (.invokevirtual 149, 3) := by decide +kernel
theorem dX9_readPlan_37 : decode cX9_readPlan 37 = .ok (.ifCond .ne 5, 3) := by decide +kernel
theorem dX9_readPlan_40 : decode cX9_readPlan 40 = .ok (.iload_n 1, 1) := by decide +kernel
theorem dX9_readPlan_41 : decode cX9_readPlan 41 = .ok (.ireturn, 1) := by decide +kernel
theorem dX9_readPlan_42 : decode cX9_readPlan 42 = .ok (.aload_n 0, 1) := by decide +kernel
theorem dX9_readPlan_43 : decode cX9_readPlan 43 = .ok (.getfield 48, 3) := by decide +kernel
theorem dX9_readPlan_46 : decode cX9_readPlan 46 = .ok (.aload_n 0, 1) := by decide +kernel
theorem dX9_readPlan_47 : decode cX9_readPlan 47 = .ok (.getfield 146, 3) := by decide +kernel
theorem dX9_readPlan_50 : decode cX9_readPlan 50 = .ok (.aload_n 0, 1) := by decide +kernel
theorem dX9_readPlan_51 : decode cX9_readPlan 51 = .ok (.getfield 44, 3) := by decide +kernel
theorem dX9_readPlan_54 : decode cX9_readPlan 54 = .ok (.iload_n 1, 1) := by decide +kernel
theorem dX9_readPlan_55 : decode cX9_readPlan 55 = .ok (.caload, 1) := by decide +kernel
theorem dX9_readPlan_56 : decode cX9_readPlan 56 = .ok (.castore, 1) := by decide +kernel
theorem dX9_readPlan_57 : decode cX9_readPlan 57 = .ok (.aload_n 0, 1) := by decide +kernel
theorem dX9_readPlan_58 : decode cX9_readPlan 58 = .ok (.getfield 51, 3) := by decide +kernel
theorem dX9_readPlan_61 : decode cX9_readPlan 61 = .ok (.aload_n 0, 1) := by decide +kernel
theorem dX9_readPlan_62 : decode cX9_readPlan 62 = .ok (.getfield 146, 3) := by decide +kernel
theorem dX9_readPlan_65 : decode cX9_readPlan 65 = .ok (.iconst 1, 1) := by decide +kernel
theorem dX9_readPlan_66 : decode cX9_readPlan 66 = .ok (.iastore, 1) := by decide +kernel
theorem dX9_readPlan_67 : decode cX9_readPlan 67 = .ok (.iinc 1 1, 3) := by decide +kernel
theorem dX9_readPlan_70 : decode cX9_readPlan 70 = .ok (.aload_n 0, 1) := by decide +kernel
theorem dX9_readPlan_71 : decode cX9_readPlan 71 = .ok (.getfield 44, 3) := by decide +kernel
theorem dX9_readPlan_74 : decode cX9_readPlan 74 = .ok (.iload_n 1, 1) := by decide +kernel
theorem dX9_readPlan_75 : decode cX9_readPlan 75 = .ok (.iconst 1, 1) := by decide +kernel
theorem dX9_readPlan_76 : decode cX9_readPlan 76 = .ok (.isub, 1) := by decide +kernel
theorem dX9_readPlan_77 : decode cX9_readPlan 77 = .ok (.caload, 1) := by decide +kernel
theorem dX9_readPlan_78 : decode cX9_readPlan 78 = .ok (.bipush 35, 2) := by decide +kernel
theorem dX9_readPlan_80 : decode cX9_readPlan 80 = .ok (.if_icmp .ne 55, 3) := by decide +kernel
theorem dX9_readPlan_83 : decode cX9_readPlan 83 = .ok (.aload_n 0, 1) := by decide +kernel
theorem dX9_readPlan_84 : decode cX9_readPlan 84 = .ok (.iload_n 1, 1) := by decide +kernel
theorem dX9_readPlan_85 : decode cX9_readPlan 85 = .ok (.invokevirtual 153, 3) := by decide +kernel
theorem dX9_readPlan_88 : decode cX9_readPlan 88 = .ok (.ifCond .eq 21, 3) := by decide +kernel
theorem dX9_readPlan_91 : decode cX9_readPlan 91 = .ok (.aload_n 0, 1) := by decide +kernel
theorem dX9_readPlan_92 : decode cX9_readPlan 92 = .ok (.getfield 44, 3) := by decide +kernel
theorem dX9_readPlan_95 : decode cX9_readPlan 95 = .ok (.iload_n 1, 1) := by decide +kernel
theorem dX9_readPlan_96 : decode cX9_readPlan 96 = .ok (.caload, 1) := by decide +kernel
theorem dX9_readPlan_97 : decode cX9_readPlan 97 = .ok (.bipush 48, 2) := by decide +kernel
theorem dX9_readPlan_99 : decode cX9_readPlan 99 = .ok (.isub, 1) := by decide +kernel
theorem dX9_readPlan_100 : decode cX9_readPlan 100 = .ok (.aload_n 0, 1) := by decide +kernel
theorem dX9_readPlan_101 : decode cX9_readPlan 101 = .ok (.getfield 7, 3) := by decide +kernel
theorem dX9_readPlan_104 : decode cX9_readPlan 104 = .ok (.iconst 2, 1) := by decide +kernel
theorem dX9_readPlan_105 : decode cX9_readPlan 105 = .ok (.iaload, 1) := by decide +kernel
theorem dX9_readPlan_106 : decode cX9_readPlan 106 = .ok (.if_icmp .lt 5, 3) := by decide +kernel
theorem dX9_readPlan_109 : decode cX9_readPlan 109 = .ok (.iload_n 1, 1) := by decide +kernel
theorem dX9_readPlan_110 : decode cX9_readPlan 110 = .ok (.ireturn, 1) := by decide +kernel
theorem dX9_readPlan_111 : decode cX9_readPlan 111 = .ok (.aload_n 0, 1) := by decide +kernel
theorem dX9_readPlan_112 : decode cX9_readPlan 112 = .ok (.getfield 51, 3) := by decide +kernel
theorem dX9_readPlan_115 : decode cX9_readPlan 115 = .ok (.aload_n 0, 1) := by decide +kernel
theorem dX9_readPlan_116 : decode cX9_readPlan 116 = .ok (.getfield 146, 3) := by decide +kernel
theorem dX9_readPlan_119 : decode cX9_readPlan 119 = .ok (.aload_n 0, 1) := by decide +kernel
theorem dX9_readPlan_120 : decode cX9_readPlan 120 = .ok (.getfield 44, 3) := by decide +kernel
theorem dX9_readPlan_123 : decode cX9_readPlan 123 = .ok (.iload_n 1, 1) := by decide +kernel
theorem dX9_readPlan_124 : decode cX9_readPlan 124 = .ok (.caload, 1) := by decide +kernel
theorem dX9_readPlan_125 : decode cX9_readPlan 125 = .ok (.bipush 48, 2) := by decide +kernel
theorem dX9_readPlan_127 : decode cX9_readPlan 127 = .ok (.isub, 1) := by decide +kernel
theorem dX9_readPlan_128 : decode cX9_readPlan 128 = .ok (.iastore, 1) := by decide +kernel
theorem dX9_readPlan_129 : decode cX9_readPlan 129 = .ok (.iinc 1 1, 3) := by decide +kernel
theorem dX9_readPlan_132 : decode cX9_readPlan 132 = .ok (.goto 103, 3) := by decide +kernel
theorem dX9_readPlan_135 : decode cX9_readPlan 135 = .ok (.aload_n 0, 1) := by decide +kernel
theorem dX9_readPlan_136 : decode cX9_readPlan 136 = .ok (.iload_n 1, 1) := by decide +kernel
theorem dX9_readPlan_137 : decode cX9_readPlan 137 = .ok (.invokevirtual 153, 3) := by decide +kernel
theorem dX9_readPlan_140 : decode cX9_readPlan 140 = .ok (.ifCond .eq 95, 3) := by decide +kernel
theorem dX9_readPlan_143 : decode cX9_readPlan 143 = .ok (.aload_n 0, 1) := by decide +kernel
theorem dX9_readPlan_144 : decode cX9_readPlan 144 = .ok (.getfield 44, 3) := by decide +kernel
theorem dX9_readPlan_147 : decode cX9_readPlan 147 = .ok (.iload_n 1, 1) := by decide +kernel
theorem dX9_readPlan_148 : decode cX9_readPlan 148 = .ok (.caload, 1) := by decide +kernel
theorem dX9_readPlan_149 : decode cX9_readPlan 149 = .ok (.bipush 48, 2) := by decide +kernel
theorem dX9_readPlan_151 : decode cX9_readPlan 151 = .ok (.if_icmp .ne 5, 3) := by decide +kernel
theorem dX9_readPlan_154 : decode cX9_readPlan 154 = .ok (.iload_n 1, 1) := by decide +kernel
theorem dX9_readPlan_155 : decode cX9_readPlan 155 = .ok (.ireturn, 1) := by decide +kernel
theorem dX9_readPlan_156 : decode cX9_readPlan 156 = .ok (.aload_n 0, 1) := by decide +kernel
theorem dX9_readPlan_157 : decode cX9_readPlan 157 = .ok (.getfield 51, 3) := by decide +kernel
theorem dX9_readPlan_160 : decode cX9_readPlan 160 = .ok (.aload_n 0, 1) := by decide +kernel
theorem dX9_readPlan_161 : decode cX9_readPlan 161 = .ok (.getfield 146, 3) := by decide +kernel
theorem dX9_readPlan_164 : decode cX9_readPlan 164 = .ok (.aload_n 0, 1) := by decide +kernel
theorem dX9_readPlan_165 : decode cX9_readPlan 165 = .ok (.getfield 44, 3) := by decide +kernel
theorem dX9_readPlan_168 : decode cX9_readPlan 168 = .ok (.iload_n 1, 1) := by decide +kernel
theorem dX9_readPlan_169 : decode cX9_readPlan 169 = .ok (.caload, 1) := by decide +kernel
theorem dX9_readPlan_170 : decode cX9_readPlan 170 = .ok (.bipush 48, 2) := by decide +kernel
theorem dX9_readPlan_172 : decode cX9_readPlan 172 = .ok (.isub, 1) := by decide +kernel
theorem dX9_readPlan_173 : decode cX9_readPlan 173 = .ok (.iastore, 1) := by decide +kernel
theorem dX9_readPlan_174 : decode cX9_readPlan 174 = .ok (.iinc 1 1, 3) := by decide +kernel
theorem dX9_readPlan_177 : decode cX9_readPlan 177 = .ok (.aload_n 0, 1) := by decide +kernel
theorem dX9_readPlan_178 : decode cX9_readPlan 178 = .ok (.iload_n 1, 1) := by decide +kernel
theorem dX9_readPlan_179 : decode cX9_readPlan 179 = .ok (.invokevirtual 153, 3) := by decide +kernel
theorem dX9_readPlan_182 : decode cX9_readPlan 182 = .ok (.ifCond .eq 53, 3) := by decide +kernel
theorem dX9_readPlan_185 : decode cX9_readPlan 185 = .ok (.aload_n 0, 1) := by decide +kernel
theorem dX9_readPlan_186 : decode cX9_readPlan 186 = .ok (.getfield 51, 3) := by decide +kernel
theorem dX9_readPlan_189 : decode cX9_readPlan 189 = .ok (.aload_n 0, 1) := by decide +kernel
theorem dX9_readPlan_190 : decode cX9_readPlan 190 = .ok (.getfield 146, 3) := by decide +kernel
theorem dX9_readPlan_193 : decode cX9_readPlan 193 = .ok (.bipush 10, 2) := by decide +kernel
theorem dX9_readPlan_195 : decode cX9_readPlan 195 = .ok (.aload_n 0, 1) := by decide +kernel
theorem dX9_readPlan_196 : decode cX9_readPlan 196 = .ok (.getfield 51, 3) := by decide +kernel
theorem dX9_readPlan_199 : decode cX9_readPlan 199 = .ok (.aload_n 0, 1) := by decide +kernel
theorem dX9_readPlan_200 : decode cX9_readPlan 200 = .ok (.getfield 146, 3) := by decide +kernel
theorem dX9_readPlan_203 : decode cX9_readPlan 203 = .ok (.iaload, 1) := by decide +kernel
theorem dX9_readPlan_204 : decode cX9_readPlan 204 = .ok (.imul, 1) := by decide +kernel
theorem dX9_readPlan_205 : decode cX9_readPlan 205 = .ok (.aload_n 0, 1) := by decide +kernel
theorem dX9_readPlan_206 : decode cX9_readPlan 206 = .ok (.getfield 44, 3) := by decide +kernel
theorem dX9_readPlan_209 : decode cX9_readPlan 209 = .ok (.iload_n 1, 1) := by decide +kernel
theorem dX9_readPlan_210 : decode cX9_readPlan 210 = .ok (.caload, 1) := by decide +kernel
theorem dX9_readPlan_211 : decode cX9_readPlan 211 = .ok (.iadd, 1) := by decide +kernel
theorem dX9_readPlan_212 : decode cX9_readPlan 212 = .ok (.bipush 48, 2) := by decide +kernel
theorem dX9_readPlan_214 : decode cX9_readPlan 214 = .ok (.isub, 1) := by decide +kernel
theorem dX9_readPlan_215 : decode cX9_readPlan 215 = .ok (.iastore, 1) := by decide +kernel
theorem dX9_readPlan_216 : decode cX9_readPlan 216 = .ok (.aload_n 0, 1) := by decide +kernel
theorem dX9_readPlan_217 : decode cX9_readPlan 217 = .ok (.getfield 51, 3) := by decide +kernel
theorem dX9_readPlan_220 : decode cX9_readPlan 220 = .ok (.aload_n 0, 1) := by decide +kernel
theorem dX9_readPlan_221 : decode cX9_readPlan 221 = .ok (.getfield 146, 3) := by decide +kernel
theorem dX9_readPlan_224 : decode cX9_readPlan 224 = .ok (.iaload, 1) := by decide +kernel
theorem dX9_readPlan_225 : decode cX9_readPlan 225 = .ok (.bipush 50, 2) := by decide +kernel
theorem dX9_readPlan_227 : decode cX9_readPlan 227 = .ok (.if_icmp .le 5, 3) := by decide +kernel
theorem dX9_readPlan_230 : decode cX9_readPlan 230 = .ok (.iload_n 1, 1) := by decide +kernel
theorem dX9_readPlan_231 : decode cX9_readPlan 231 = .ok (.ireturn, 1) := by decide +kernel
theorem dX9_readPlan_232 : decode cX9_readPlan 232 = .ok (.iinc 1 1, 3) := by decide +kernel
theorem dX9_readPlan_235 : decode cX9_readPlan 235 = .ok (.aload_n 0, 1) := by decide +kernel
theorem dX9_readPlan_236 : decode cX9_readPlan 236 = .ok (.dup, 1) := by decide +kernel
theorem dX9_readPlan_237 : decode cX9_readPlan 237 = .ok (.getfield 146, 3) := by decide +kernel
theorem dX9_readPlan_240 : decode cX9_readPlan 240 = .ok (.iconst 1, 1) := by decide +kernel
theorem dX9_readPlan_241 : decode cX9_readPlan 241 = .ok (.iadd, 1) := by decide +kernel
theorem dX9_readPlan_242 : decode cX9_readPlan 242 = .ok (.putfield 146, 3) := by decide +kernel
theorem dX9_readPlan_245 : decode cX9_readPlan 245 = .ok (.goto (-238), 3) := by decide +kernel
theorem dX9_readPlan_248 : decode cX9_readPlan 248 = .ok (.bipush (-5), 2) := by decide +kernel
theorem dX9_readPlan_250 : decode cX9_readPlan 250 = .ok (.ireturn, 1) := by decide +kernel
theorem dX9_carryOut_0 : decode cX9_carryOut 0 = .ok (.iload_n 2, 1) := by decide +kernel
theorem dX9_carryOut_1 : decode cX9_carryOut 1 = .ok (.invokestatic 142, 3) := by decide +kernel
theorem dX9_carryOut_4 : decode cX9_carryOut 4 = .ok (.istore 4, 2) := by decide +kernel
theorem dX9_carryOut_6 : decode cX9_carryOut 6 = .ok (.iload_n 2, 1) := by decide +kernel
theorem dX9_carryOut_7 : decode cX9_carryOut 7 = .ok (.bipush 114, 2) := by decide +kernel
theorem dX9_carryOut_9 : decode cX9_carryOut 9 = .ok (.if_icmp .ne 25, 3) := by decide +kernel
theorem dX9_carryOut_12 : decode cX9_carryOut 12 = .ok (.iconst 0, 1) := by decide +kernel
theorem dX9_carryOut_13 : decode cX9_carryOut 13 = .ok (.istore 5, 2) := by decide +kernel
theorem dX9_carryOut_15 : decode cX9_carryOut 15 = .ok (.iload 5, 2) := by decide +kernel
theorem dX9_carryOut_17 : decode cX9_carryOut 17 = .ok (.iload_n 3, 1) := by decide +kernel
theorem dX9_carryOut_18 : decode cX9_carryOut 18 = .ok (.if_icmp .ge 13, 3) := by decide +kernel
theorem dX9_carryOut_21 : decode cX9_carryOut 21 = .ok (.aload_n 0, 1) := by decide +kernel
theorem dX9_carryOut_22 : decode cX9_carryOut 22 = .ok (.invokevirtual 133, 3) := by decide +kernel
theorem dX9_carryOut_25 : decode cX9_carryOut 25 = .ok (.iinc 5 1, 3) := by decide +kernel
theorem dX9_carryOut_28 : decode cX9_carryOut 28 = .ok (.goto (-13), 3) := by decide +kernel
theorem dX9_carryOut_31 : decode cX9_carryOut 31 = .ok (.goto 134, 3) := by decide +kernel
theorem dX9_carryOut_34 : decode cX9_carryOut 34 = .ok (.iload 4, 2) := by decide +kernel
theorem dX9_carryOut_36 : decode cX9_carryOut 36 = .ok (.ifCond .lt 48, 3) := by decide +kernel
theorem dX9_carryOut_39 : decode cX9_carryOut 39 = .ok (.iconst 0, 1) := by decide +kernel
theorem dX9_carryOut_40 : decode cX9_carryOut 40 = .ok (.istore 5, 2) := by decide +kernel
theorem dX9_carryOut_42 : decode cX9_carryOut 42 = .ok (.iload 5, 2) := by decide +kernel
theorem dX9_carryOut_44 : decode cX9_carryOut 44 = .ok (.iload_n 3, 1) := by decide +kernel
theorem dX9_carryOut_45 : decode cX9_carryOut 45 = .ok (.if_icmp .ge 36, 3) := by decide +kernel
theorem dX9_carryOut_48 : decode cX9_carryOut 48 = .ok (.aload_n 0, 1) := by decide +kernel
theorem dX9_carryOut_49 : decode cX9_carryOut 49 = .ok (.aload_n 0, 1) := by decide +kernel
theorem dX9_carryOut_50 : decode cX9_carryOut 50 = .ok (.iload_n 1, 1) := by decide +kernel
theorem dX9_carryOut_51 : decode cX9_carryOut 51 = .ok (.invokevirtual 102, 3) := by decide +kernel
theorem dX9_carryOut_54 : decode cX9_carryOut 54 = .ok (.iload 4, 2) := by decide +kernel
theorem dX9_carryOut_56 : decode cX9_carryOut 56 = .ok (.invokevirtual 80, 3) := by decide +kernel
theorem dX9_carryOut_59 : decode cX9_carryOut 59 = .ok (.ifCond .lt 22, 3) := by decide +kernel
theorem dX9_carryOut_62 : decode cX9_carryOut 62 = .ok (.aload_n 0, 1) := by decide +kernel
theorem dX9_carryOut_63 : decode cX9_carryOut 63 = .ok (.iload_n 1, 1) := by decide +kernel
theorem dX9_carryOut_64 : decode cX9_carryOut 64 = .ok (.iconst 2, 1) := by decide +kernel
theorem dX9_carryOut_65 : decode cX9_carryOut 65 = .ok (.iload 4, 2) := by decide +kernel
theorem dX9_carryOut_67 : decode cX9_carryOut 67 = .ok (.invokevirtual 91, 3) := by decide +kernel
theorem dX9_carryOut_70 : decode cX9_carryOut 70 = .ok (.aload_n 0, 1) := by decide +kernel
theorem dX9_carryOut_71 : decode cX9_carryOut 71 = .ok (.iload_n 1, 1) := by decide +kernel
theorem dX9_carryOut_72 : decode cX9_carryOut 72 = .ok (.invokevirtual 127, 3) := by decide +kernel
theorem dX9_carryOut_75 : decode cX9_carryOut 75 = .ok (.iinc 5 1, 3) := by decide +kernel
theorem dX9_carryOut_78 : decode cX9_carryOut 78 = .ok (.goto (-36), 3) := by decide +kernel
theorem dX9_carryOut_81 : decode cX9_carryOut 81 = .ok (.goto 84, 3) := by decide +kernel
theorem dX9_carryOut_84 : decode cX9_carryOut 84 = .ok (.iload_n 2, 1) := by decide +kernel
theorem dX9_carryOut_85 : decode cX9_carryOut 85 = .ok (.bipush 103, 2) := by decide +kernel
theorem dX9_carryOut_87 : decode cX9_carryOut 87 = .ok (.if_icmp .ne 44, 3) := by decide +kernel
theorem dX9_carryOut_90 : decode cX9_carryOut 90 = .ok (.aload_n 0, 1) := by decide +kernel
theorem dX9_carryOut_91 : decode cX9_carryOut 91 = .ok (.iload_n 1, 1) := by decide +kernel
theorem dX9_carryOut_92 : decode cX9_carryOut 92 = .ok (.iload_n 3, 1) := by decide +kernel
theorem dX9_carryOut_93 : decode cX9_carryOut 93 = .ok (.aload_n 0, 1) := by decide +kernel
theorem dX9_carryOut_94 : decode cX9_carryOut 94 = .ok (.getfield 7, 3) := by decide +kernel
theorem dX9_carryOut_97 : decode cX9_carryOut 97 = .ok (.bipush 9, 2) := by decide +kernel
theorem dX9_carryOut_99 : decode cX9_carryOut 99 = .ok (.aload_n 0, 1) := by decide +kernel
theorem dX9_carryOut_100 : decode cX9_carryOut 100 = .ok (.iload_n 1, 1) := by decide +kernel
theorem dX9_carryOut_101 : decode cX9_carryOut 101 = .ok (.invokevirtual 102, 3) := by decide +kernel
theorem dX9_carryOut_104 : decode cX9_carryOut 104 = .ok (.iadd, 1) := by decide +kernel
theorem dX9_carryOut_105 : decode cX9_carryOut 105 = .ok (.iaload, 1) := by decide +kernel
theorem dX9_carryOut_106 : decode cX9_carryOut 106 = .ok (.aload_n 0, 1) := by decide +kernel
theorem dX9_carryOut_107 : decode cX9_carryOut 107 = .ok (.iload_n 1, 1) := by decide +kernel
theorem dX9_carryOut_108 : decode cX9_carryOut 108 = .ok (.iconst 4, 1) := by decide +kernel
theorem dX9_carryOut_109 : decode cX9_carryOut 109 = .ok (.invokevirtual 99, 3) := by decide +kernel
theorem dX9_carryOut_112 : decode cX9_carryOut 112 = .ok (.aload_n 0, 1) := by decide +kernel
theorem dX9_carryOut_113 : decode cX9_carryOut 113 = .ok (.iload_n 1, 1) := by decide +kernel
theorem dX9_carryOut_114 : decode cX9_carryOut 114 = .ok (.iconst 3, 1) := by decide +kernel
theorem dX9_carryOut_115 : decode cX9_carryOut 115 = .ok (.invokevirtual 99, 3) := by decide +kernel
theorem dX9_carryOut_118 : decode cX9_carryOut 118 = .ok (.isub, 1) := by decide +kernel
theorem dX9_carryOut_119 : decode cX9_carryOut 119 = .ok (.invokestatic 112, 3) := by decide +kernel
theorem dX9_carryOut_122 : decode cX9_carryOut 122 = .ok (.invokestatic 112, 3) := by decide +kernel
theorem dX9_carryOut_125 : decode cX9_carryOut 125 = .ok (.invokevirtual 109, 3) := by decide +kernel
theorem dX9_carryOut_128 : decode cX9_carryOut 128 = .ok (.goto 37, 3) := by decide +kernel
theorem dX9_carryOut_131 : decode cX9_carryOut 131 = .ok (.aload_n 0, 1) := by decide +kernel
theorem dX9_carryOut_132 : decode cX9_carryOut 132 = .ok (.iload_n 1, 1) := by decide +kernel
theorem dX9_carryOut_133 : decode cX9_carryOut 133 = .ok (.iload_n 3, 1) := by decide +kernel
theorem dX9_carryOut_134 : decode cX9_carryOut 134 = .ok (.aload_n 0, 1) := by decide +kernel
theorem dX9_carryOut_135 : decode cX9_carryOut 135 = .ok (.iload_n 1, 1) := by decide +kernel
theorem dX9_carryOut_136 : decode cX9_carryOut 136 = .ok (.iconst 3, 1) := by decide +kernel
theorem dX9_carryOut_137 : decode cX9_carryOut 137 = .ok (.invokevirtual 99, 3) := by decide +kernel
theorem dX9_carryOut_140 : decode cX9_carryOut 140 = .ok (.bipush 99, 2) := by decide +kernel
theorem dX9_carryOut_142 : decode cX9_carryOut 142 = .ok (.aload_n 0, 1) := by decide +kernel
theorem dX9_carryOut_143 : decode cX9_carryOut 143 = .ok (.getfield 7, 3) := by decide +kernel
theorem dX9_carryOut_146 : decode cX9_carryOut 146 = .ok (.bipush 9, 2) := by decide +kernel
theorem dX9_carryOut_148 : decode cX9_carryOut 148 = .ok (.aload_n 0, 1) := by decide +kernel
theorem dX9_carryOut_149 : decode cX9_carryOut 149 = .ok (.iload_n 1, 1) := by decide +kernel
theorem dX9_carryOut_150 : decode cX9_carryOut 150 = .ok (.invokevirtual 102, 3) := by decide +kernel
theorem dX9_carryOut_153 : decode cX9_carryOut 153 = .ok (.iadd, 1) := by decide +kernel
theorem dX9_carryOut_154 : decode cX9_carryOut 154 = .ok (.iaload, 1) := by decide +kernel
theorem dX9_carryOut_155 : decode cX9_carryOut 155 = .ok (.isub, 1) := by decide +kernel
theorem dX9_carryOut_156 : decode cX9_carryOut 156 = .ok (.invokestatic 112, 3) := by decide +kernel
theorem dX9_carryOut_159 : decode cX9_carryOut 159 = .ok (.invokestatic 112, 3) := by decide +kernel
theorem dX9_carryOut_162 : decode cX9_carryOut 162 = .ok (.invokevirtual 105, 3) := by decide +kernel
theorem dX9_carryOut_165 : decode cX9_carryOut 165 = .ok (.return_, 1) := by decide +kernel
theorem dX9_run_0 : decode cX9_run 0 = .ok (.aload_n 0, 1) := by decide +kernel
theorem dX9_run_1 : decode cX9_run 1 = .ok (.invokevirtual 156, 3) := by decide +kernel
theorem dX9_run_4 : decode cX9_run 4 = .ok (.istore_n 1, 1) := by decide +kernel
theorem dX9_run_5 : decode cX9_run 5 = .ok (.iload_n 1, 1) := by decide +kernel
theorem dX9_run_6 : decode cX9_run 6 = .ok (.ifCond .lt 8, 3) := by decide +kernel
theorem dX9_run_9 : decode cX9_run 9 = .ok (.bipush (-100), 2) := by decide +kernel
theorem dX9_run_11 : decode cX9_run 11 = .ok (.iload_n 1, 1) := by decide +kernel
theorem dX9_run_12 : decode cX9_run 12 = .ok (.isub, 1) := by decide +kernel
theorem dX9_run_13 : decode cX9_run 13 = .ok (.ireturn, 1) := by decide +kernel
theorem dX9_run_14 : decode cX9_run 14 = .ok (.aload_n 0, 1) := by decide +kernel
theorem dX9_run_15 : decode cX9_run 15 = .ok (.invokevirtual 66, 3) := by decide +kernel
theorem dX9_run_18 : decode cX9_run 18 = .ok (.iconst 0, 1) := by decide +kernel
theorem dX9_run_19 : decode cX9_run 19 = .ok (.istore_n 2, 1) := by decide +kernel
theorem dX9_run_20 : decode cX9_run 20 = .ok (.iconst 0, 1) := by decide +kernel
theorem dX9_run_21 : decode cX9_run 21 = .ok (.istore_n 3, 1) := by decide +kernel
theorem dX9_run_22 : decode cX9_run 22 = .ok (.iload_n 3, 1) := by decide +kernel
theorem dX9_run_23 : decode cX9_run 23 = .ok (.aload_n 0, 1) := by decide +kernel
theorem dX9_run_24 : decode cX9_run 24 = .ok (.getfield 146, 3) := by decide +kernel
theorem dX9_run_27 : decode cX9_run 27 = .ok (.if_icmp .ge 47, 3) := by decide +kernel
theorem dX9_run_30 : decode cX9_run 30 = .ok (.aload_n 0, 1) := by decide +kernel
theorem dX9_run_31 : decode cX9_run 31 = .ok (.getfield 48, 3) := by decide +kernel
theorem dX9_run_34 : decode cX9_run 34 = .ok (.iload_n 3, 1) := by decide +kernel
theorem dX9_run_35 : decode cX9_run 35 = .ok (.caload, 1) := by decide +kernel
theorem dX9_run_36 : decode cX9_run 36 = .ok (.bipush 35, 2) := by decide +kernel
theorem dX9_run_38 : decode cX9_run 38 = .ok (.if_icmp .ne 13, 3) := by decide +kernel
theorem dX9_run_41 : decode cX9_run 41 = .ok (.aload_n 0, 1) := by decide +kernel
theorem dX9_run_42 : decode cX9_run 42 = .ok (.getfield 51, 3) := by decide +kernel
theorem dX9_run_45 : decode cX9_run 45 = .ok (.iload_n 3, 1) := by decide +kernel
theorem dX9_run_46 : decode cX9_run 46 = .ok (.iaload, 1) := by decide +kernel
theorem dX9_run_47 : decode cX9_run 47 = .ok (.istore_n 2, 1) := by decide +kernel
theorem dX9_run_48 : decode cX9_run 48 = .ok (.goto 20, 3) := by decide +kernel
theorem dX9_run_51 : decode cX9_run 51 = .ok (.aload_n 0, 1) := by decide +kernel
theorem dX9_run_52 : decode cX9_run 52 = .ok (.iload_n 2, 1) := by decide +kernel
theorem dX9_run_53 : decode cX9_run 53 = .ok (.aload_n 0, 1) := by decide +kernel
theorem dX9_run_54 : decode cX9_run 54 = .ok (.getfield 48, 3) := by decide +kernel
theorem dX9_run_57 : decode cX9_run 57 = .ok (.iload_n 3, 1) := by decide +kernel
theorem dX9_run_58 : decode cX9_run 58 = .ok (.caload, 1) := by decide +kernel
theorem dX9_run_59 : decode cX9_run 59 = .ok (.aload_n 0, 1) := by decide +kernel
theorem dX9_run_60 : decode cX9_run 60 = .ok (.getfield 51, 3) := by decide +kernel
theorem dX9_run_63 : decode cX9_run 63 = .ok (.iload_n 3, 1) := by decide +kernel
theorem dX9_run_64 : decode cX9_run 64 = .ok (.iaload, 1) := by decide +kernel
theorem dX9_run_65 : decode cX9_run 65 = .ok (.invokevirtual 159, 3) := by decide +kernel
theorem dX9_run_68 : decode cX9_run 68 = .ok (.iinc 3 1, 3) := by decide +kernel
theorem dX9_run_71 : decode cX9_run 71 = .ok (.goto (-49), 3) := by decide +kernel
theorem dX9_run_74 : decode cX9_run 74 = .ok (.aload_n 0, 1) := by decide +kernel
theorem dX9_run_75 : decode cX9_run 75 = .ok (.aload_n 0, 1) := by decide +kernel
theorem dX9_run_76 : decode cX9_run 76 = .ok (.getfield 7, 3) := by decide +kernel
theorem dX9_run_79 : decode cX9_run 79 = .ok (.bipush 8, 2) := by decide +kernel
theorem dX9_run_81 : decode cX9_run 81 = .ok (.iaload, 1) := by decide +kernel
theorem dX9_run_82 : decode cX9_run 82 = .ok (.aload_n 0, 1) := by decide +kernel
theorem dX9_run_83 : decode cX9_run 83 = .ok (.getfield 13, 3) := by decide +kernel
theorem dX9_run_86 : decode cX9_run 86 = .ok (.bipush 8, 2) := by decide +kernel
theorem dX9_run_88 : decode cX9_run 88 = .ok (.iaload, 1) := by decide +kernel
theorem dX9_run_89 : decode cX9_run 89 = .ok (.isub, 1) := by decide +kernel
theorem dX9_run_90 : decode cX9_run 90 = .ok (.invokevirtual 69, 3) := by decide +kernel
theorem dX9_run_93 : decode cX9_run 93 = .ok (.ireturn, 1) := by decide +kernel
theorem dX9_chips_0 : decode cX9_chips 0 = .ok (.aload_n 0, 1) := by decide +kernel
theorem dX9_chips_1 : decode cX9_chips 1 = .ok (.iload_n 1, 1) := by decide +kernel
theorem dX9_chips_2 : decode cX9_chips 2 = .ok (.iload_n 2, 1) := by decide +kernel
theorem dX9_chips_3 : decode cX9_chips 3 = .ok (.invokevirtual 73, 3) := by decide +kernel
theorem dX9_chips_6 : decode cX9_chips 6 = .ok (.ifCond .eq 20, 3) := by decide +kernel
theorem dX9_chips_9 : decode cX9_chips 9 = .ok (.aload_n 0, 1) := by decide +kernel
theorem dX9_chips_10 : decode cX9_chips 10 = .ok (.getfield 7, 3) := by decide +kernel
theorem dX9_chips_13 : decode cX9_chips 13 = .ok (.bipush 9, 2) := by decide +kernel
theorem dX9_chips_15 : decode cX9_chips 15 = .ok (.bipush 16, 2) := by decide +kernel
theorem dX9_chips_17 : decode cX9_chips 17 = .ok (.iload_n 1, 1) := by decide +kernel
theorem dX9_chips_18 : decode cX9_chips 18 = .ok (.imul, 1) := by decide +kernel
theorem dX9_chips_19 : decode cX9_chips 19 = .ok (.iadd, 1) := by decide +kernel
theorem dX9_chips_20 : decode cX9_chips 20 = .ok (.iload_n 2, 1) := by decide +kernel
theorem dX9_chips_21 : decode cX9_chips 21 = .ok (.iadd, 1) := by decide +kernel
theorem dX9_chips_22 : decode cX9_chips 22 = .ok (.iaload, 1) := by decide +kernel
theorem dX9_chips_23 : decode cX9_chips 23 = .ok (.goto 4, 3) := by decide +kernel
theorem dX9_chips_26 : decode cX9_chips 26 = .ok (.iconst (-1), 1) := by decide +kernel
theorem dX9_chips_27 : decode cX9_chips 27 = .ok (.ireturn, 1) := by decide +kernel
theorem dX9_walker_0 : decode cX9_walker 0 = .ok (.aload_n 0, 1) := by decide +kernel
theorem dX9_walker_1 : decode cX9_walker 1 = .ok (.iload_n 1, 1) := by decide +kernel
theorem dX9_walker_2 : decode cX9_walker 2 = .ok (.invokevirtual 95, 3) := by decide +kernel
theorem dX9_walker_5 : decode cX9_walker 5 = .ok (.ifCond .eq 5, 3) := by decide +kernel
theorem dX9_walker_8 : decode cX9_walker 8 = .ok (.iconst (-1), 1) := by decide +kernel
theorem dX9_walker_9 : decode cX9_walker 9 = .ok (.ireturn, 1) := by decide +kernel
theorem dX9_walker_10 : decode cX9_walker 10 = .ok (.iload_n 2, 1) := by decide +kernel
theorem dX9_walker_11 : decode cX9_walker 11 = .ok (.iconst 0, 1) := by decide +kernel
theorem dX9_walker_12 : decode cX9_walker 12 = .ok (.bipush 8, 2) := by decide +kernel
theorem dX9_walker_14 : decode cX9_walker 14 = .ok (.invokestatic 58, 3) := by decide +kernel
theorem dX9_walker_17 : decode cX9_walker 17 = .ok (.ifCond .eq 12, 3) := by decide +kernel
theorem dX9_walker_20 : decode cX9_walker 20 = .ok (.aload_n 0, 1) := by decide +kernel
theorem dX9_walker_21 : decode cX9_walker 21 = .ok (.iload_n 1, 1) := by decide +kernel
theorem dX9_walker_22 : decode cX9_walker 22 = .ok (.iload_n 2, 1) := by decide +kernel
theorem dX9_walker_23 : decode cX9_walker 23 = .ok (.invokevirtual 99, 3) := by decide +kernel
theorem dX9_walker_26 : decode cX9_walker 26 = .ok (.goto 5, 3) := by decide +kernel
theorem dX9_walker_29 : decode cX9_walker 29 = .ok (.bipush (-2), 2) := by decide +kernel
theorem dX9_walker_31 : decode cX9_walker 31 = .ok (.ireturn, 1) := by decide +kernel
theorem dX9_heap_0 : decode cX9_heap 0 = .ok (.iload_n 1, 1) := by decide +kernel
theorem dX9_heap_1 : decode cX9_heap 1 = .ok (.ifCond .lt 12, 3) := by decide +kernel
theorem dX9_heap_4 : decode cX9_heap 4 = .ok (.iload_n 2, 1) := by decide +kernel
theorem dX9_heap_5 : decode cX9_heap 5 = .ok (.iconst 0, 1) := by decide +kernel
theorem dX9_heap_6 : decode cX9_heap 6 = .ok (.iconst 4, 1) := by decide +kernel
theorem dX9_heap_7 : decode cX9_heap 7 = .ok (.invokestatic 58, 3) := by decide +kernel
theorem dX9_heap_10 : decode cX9_heap 10 = .ok (.ifCond .ne 6, 3) := by decide +kernel
theorem dX9_heap_13 : decode cX9_heap 13 = .ok (.bipush (-2), 2) := by decide +kernel
theorem dX9_heap_15 : decode cX9_heap 15 = .ok (.ireturn, 1) := by decide +kernel
theorem dX9_heap_16 : decode cX9_heap 16 = .ok (.aload_n 0, 1) := by decide +kernel
theorem dX9_heap_17 : decode cX9_heap 17 = .ok (.invokevirtual 115, 3) := by decide +kernel
theorem dX9_heap_20 : decode cX9_heap 20 = .ok (.iconst 0, 1) := by decide +kernel
theorem dX9_heap_21 : decode cX9_heap 21 = .ok (.istore_n 3, 1) := by decide +kernel
theorem dX9_heap_22 : decode cX9_heap 22 = .ok (.iload_n 3, 1) := by decide +kernel
theorem dX9_heap_23 : decode cX9_heap 23 = .ok (.aload_n 0, 1) := by decide +kernel
theorem dX9_heap_24 : decode cX9_heap 24 = .ok (.getfield 77, 3) := by decide +kernel
theorem dX9_heap_27 : decode cX9_heap 27 = .ok (.if_icmp .ge 86, 3) := by decide +kernel
theorem dX9_heap_30 : decode cX9_heap 30 = .ok (.aload_n 0, 1) := by decide +kernel
theorem dX9_heap_31 : decode cX9_heap 31 = .ok (.iload_n 3, 1) := by decide +kernel
theorem dX9_heap_32 : decode cX9_heap 32 = .ok (.invokevirtual 118, 3) := by decide +kernel
theorem dX9_heap_35 : decode cX9_heap 35 = .ok (.iload_n 1, 1) := by decide +kernel
theorem dX9_heap_36 : decode cX9_heap 36 = .ok (.if_icmp .ne 71, 3) := by decide +kernel
theorem dX9_heap_39 : decode cX9_heap 39 = .ok (.iload_n 2, 1) := by decide +kernel
theorem dX9_heap_40 : decode cX9_heap 40 = .ok (.ifCond .ne 12, 3) := by decide +kernel
theorem dX9_heap_43 : decode cX9_heap 43 = .ok (.aload_n 0, 1) := by decide +kernel
theorem dX9_heap_44 : decode cX9_heap 44 = .ok (.getfield 29, 3) := by decide +kernel
theorem dX9_heap_47 : decode cX9_heap 47 = .ok (.iload_n 3, 1) := by decide +kernel
theorem dX9_heap_48 : decode cX9_heap 48 = .ok (.iaload, 1) := by decide +kernel
theorem dX9_heap_49 : decode cX9_heap 49 = .ok (.goto 57, 3) := by decide +kernel
theorem dX9_heap_52 : decode cX9_heap 52 = .ok (.iload_n 2, 1) := by decide +kernel
theorem dX9_heap_53 : decode cX9_heap 53 = .ok (.iconst 1, 1) := by decide +kernel
theorem dX9_heap_54 : decode cX9_heap 54 = .ok (.if_icmp .ne 12, 3) := by decide +kernel
theorem dX9_heap_57 : decode cX9_heap 57 = .ok (.aload_n 0, 1) := by decide +kernel
theorem dX9_heap_58 : decode cX9_heap 58 = .ok (.getfield 32, 3) := by decide +kernel
theorem dX9_heap_61 : decode cX9_heap 61 = .ok (.iload_n 3, 1) := by decide +kernel
theorem dX9_heap_62 : decode cX9_heap 62 = .ok (.iaload, 1) := by decide +kernel
theorem dX9_heap_63 : decode cX9_heap 63 = .ok (.goto 43, 3) := by decide +kernel
theorem dX9_heap_66 : decode cX9_heap 66 = .ok (.iload_n 2, 1) := by decide +kernel
theorem dX9_heap_67 : decode cX9_heap 67 = .ok (.iconst 2, 1) := by decide +kernel
theorem dX9_heap_68 : decode cX9_heap 68 = .ok (.if_icmp .ne 15, 3) := by decide +kernel
theorem dX9_heap_71 : decode cX9_heap 71 = .ok (.aload_n 0, 1) := by decide +kernel
theorem dX9_heap_72 : decode cX9_heap 72 = .ok (.getfield 35, 3) := by decide +kernel
theorem dX9_heap_75 : decode cX9_heap 75 = .ok (.iload_n 3, 1) := by decide +kernel
theorem dX9_heap_76 : decode cX9_heap 76 = .ok (.iaload, 1) := by decide +kernel
theorem dX9_heap_77 : decode cX9_heap 77 = .ok (.bipush 16, 2) := by decide +kernel
theorem dX9_heap_79 : decode cX9_heap 79 = .ok (.idiv, 1) := by decide +kernel
theorem dX9_heap_80 : decode cX9_heap 80 = .ok (.goto 26, 3) := by decide +kernel
theorem dX9_heap_83 : decode cX9_heap 83 = .ok (.iload_n 2, 1) := by decide +kernel
theorem dX9_heap_84 : decode cX9_heap 84 = .ok (.iconst 3, 1) := by decide +kernel
theorem dX9_heap_85 : decode cX9_heap 85 = .ok (.if_icmp .ne 15, 3) := by decide +kernel
theorem dX9_heap_88 : decode cX9_heap 88 = .ok (.aload_n 0, 1) := by decide +kernel
theorem dX9_heap_89 : decode cX9_heap 89 = .ok (.getfield 35, 3) := by decide +kernel
theorem dX9_heap_92 : decode cX9_heap 92 = .ok (.iload_n 3, 1) := by decide +kernel
theorem dX9_heap_93 : decode cX9_heap 93 = .ok (.iaload, 1) := by decide +kernel
theorem dX9_heap_94 : decode cX9_heap 94 = .ok (.bipush 16, 2) := by decide +kernel
theorem dX9_heap_96 : decode cX9_heap 96 = .ok (.irem, 1) := by decide +kernel
theorem dX9_heap_97 : decode cX9_heap 97 = .ok (.goto 9, 3) := by decide +kernel
theorem dX9_heap_100 : decode cX9_heap 100 = .ok (.aload_n 0, 1) := by decide +kernel
theorem dX9_heap_101 : decode cX9_heap 101 = .ok (.getfield 38, 3) := by decide +kernel
theorem dX9_heap_104 : decode cX9_heap 104 = .ok (.iload_n 3, 1) := by decide +kernel
theorem dX9_heap_105 : decode cX9_heap 105 = .ok (.iaload, 1) := by decide +kernel
theorem dX9_heap_106 : decode cX9_heap 106 = .ok (.ireturn, 1) := by decide +kernel
theorem dX9_heap_107 : decode cX9_heap 107 = .ok (.iinc 3 1, 3) := by decide +kernel
theorem dX9_heap_110 : decode cX9_heap 110 = .ok (.goto (-88), 3) := by decide +kernel
theorem dX9_heap_113 : decode cX9_heap 113 = .ok (.bipush (-5), 2) := by decide +kernel
theorem dX9_heap_115 : decode cX9_heap 115 = .ok (.ireturn, 1) := by decide +kernel
theorem dX9_heapOf_0 : decode cX9_heapOf 0 = .ok (.aload_n 0, 1) := by decide +kernel
theorem dX9_heapOf_1 : decode cX9_heapOf 1 = .ok (.iload_n 1, 1) := by decide +kernel
theorem dX9_heapOf_2 : decode cX9_heapOf 2 = .ok (.iload_n 2, 1) := by decide +kernel
theorem dX9_heapOf_3 : decode cX9_heapOf 3 = .ok (.invokevirtual 73, 3) := by decide +kernel
theorem dX9_heapOf_6 : decode cX9_heapOf 6 = .ok (.ifCond .ne 5, 3) := by decide +kernel
theorem dX9_heapOf_9 : decode cX9_heapOf 9 = .ok (.iconst (-1), 1) := by decide +kernel
theorem dX9_heapOf_10 : decode cX9_heapOf 10 = .ok (.ireturn, 1) := by decide +kernel
theorem dX9_heapOf_11 : decode cX9_heapOf 11 = .ok (.aload_n 0, 1) := by decide +kernel
theorem dX9_heapOf_12 : decode cX9_heapOf 12 = .ok (.invokevirtual 115, 3) := by decide +kernel
theorem dX9_heapOf_15 : decode cX9_heapOf 15 = .ok (.aload_n 0, 1) := by decide +kernel
theorem dX9_heapOf_16 : decode cX9_heapOf 16 = .ok (.getfield 26, 3) := by decide +kernel
theorem dX9_heapOf_19 : decode cX9_heapOf 19 = .ok (.bipush 16, 2) := by decide +kernel
theorem dX9_heapOf_21 : decode cX9_heapOf 21 = .ok (.iload_n 1, 1) := by decide +kernel
theorem dX9_heapOf_22 : decode cX9_heapOf 22 = .ok (.imul, 1) := by decide +kernel
theorem dX9_heapOf_23 : decode cX9_heapOf 23 = .ok (.iload_n 2, 1) := by decide +kernel
theorem dX9_heapOf_24 : decode cX9_heapOf 24 = .ok (.iadd, 1) := by decide +kernel
theorem dX9_heapOf_25 : decode cX9_heapOf 25 = .ok (.iaload, 1) := by decide +kernel
theorem dX9_heapOf_26 : decode cX9_heapOf 26 = .ok (.istore_n 3, 1) := by decide +kernel
theorem dX9_heapOf_27 : decode cX9_heapOf 27 = .ok (.iload_n 3, 1) := by decide +kernel
theorem dX9_heapOf_28 : decode cX9_heapOf 28 = .ok (.ifCond .ge 8, 3) := by decide +kernel
theorem dX9_heapOf_31 : decode cX9_heapOf 31 = .ok (.bipush (-5), 2) := by decide +kernel
theorem dX9_heapOf_33 : decode cX9_heapOf 33 = .ok (.goto 8, 3) := by decide +kernel
theorem dX9_heapOf_36 : decode cX9_heapOf 36 = .ok (.aload_n 0, 1) := by decide +kernel
theorem dX9_heapOf_37 : decode cX9_heapOf 37 = .ok (.iload_n 3, 1) := by decide +kernel
theorem dX9_heapOf_38 : decode cX9_heapOf 38 = .ok (.invokevirtual 118, 3) := by decide +kernel
theorem dX9_heapOf_41 : decode cX9_heapOf 41 = .ok (.ireturn, 1) := by decide +kernel
theorem dX9_turn_0 : decode cX9_turn 0 = .ok (.iload_n 1, 1) := by decide +kernel
theorem dX9_turn_1 : decode cX9_turn 1 = .ok (.ifCond .ge 6, 3) := by decide +kernel
theorem dX9_turn_4 : decode cX9_turn 4 = .ok (.bipush (-2), 2) := by decide +kernel
theorem dX9_turn_6 : decode cX9_turn 6 = .ok (.ireturn, 1) := by decide +kernel
theorem dX9_turn_7 : decode cX9_turn 7 = .ok (.iload_n 1, 1) := by decide +kernel
theorem dX9_turn_8 : decode cX9_turn 8 = .ok (.aload_n 0, 1) := by decide +kernel
theorem dX9_turn_9 : decode cX9_turn 9 = .ok (.getfield 7, 3) := by decide +kernel
theorem dX9_turn_12 : decode cX9_turn 12 = .ok (.iconst 3, 1) := by decide +kernel
theorem dX9_turn_13 : decode cX9_turn 13 = .ok (.iaload, 1) := by decide +kernel
theorem dX9_turn_14 : decode cX9_turn 14 = .ok (.if_icmp .ge 16, 3) := by decide +kernel
theorem dX9_turn_17 : decode cX9_turn 17 = .ok (.aload_n 0, 1) := by decide +kernel
theorem dX9_turn_18 : decode cX9_turn 18 = .ok (.getfield 7, 3) := by decide +kernel
theorem dX9_turn_21 : decode cX9_turn 21 = .ok (.sipush 337, 3) := by decide +kernel
theorem dX9_turn_24 : decode cX9_turn 24 = .ok (.iload_n 1, 1) := by decide +kernel
theorem dX9_turn_25 : decode cX9_turn 25 = .ok (.iadd, 1) := by decide +kernel
theorem dX9_turn_26 : decode cX9_turn 26 = .ok (.iaload, 1) := by decide +kernel
theorem dX9_turn_27 : decode cX9_turn 27 = .ok (.goto 5, 3) := by decide +kernel
theorem dX9_turn_30 : decode cX9_turn 30 = .ok (.bipush (-5), 2) := by decide +kernel
theorem dX9_turn_32 : decode cX9_turn 32 = .ok (.ireturn, 1) := by decide +kernel
theorem dX9_pocketed_0 : decode cX9_pocketed 0 = .ok (.iconst 0, 1) := by decide +kernel
theorem dX9_pocketed_1 : decode cX9_pocketed 1 = .ok (.istore_n 1, 1) := by decide +kernel
theorem dX9_pocketed_2 : decode cX9_pocketed 2 = .ok (.iconst 0, 1) := by decide +kernel
theorem dX9_pocketed_3 : decode cX9_pocketed 3 = .ok (.istore_n 2, 1) := by decide +kernel
theorem dX9_pocketed_4 : decode cX9_pocketed 4 = .ok (.iload_n 2, 1) := by decide +kernel
theorem dX9_pocketed_5 : decode cX9_pocketed 5 = .ok (.aload_n 0, 1) := by decide +kernel
theorem dX9_pocketed_6 : decode cX9_pocketed 6 = .ok (.getfield 7, 3) := by decide +kernel
theorem dX9_pocketed_9 : decode cX9_pocketed 9 = .ok (.iconst 2, 1) := by decide +kernel
theorem dX9_pocketed_10 : decode cX9_pocketed 10 = .ok (.iaload, 1) := by decide +kernel
theorem dX9_pocketed_11 : decode cX9_pocketed 11 = .ok (.if_icmp .ge 18, 3) := by decide +kernel
theorem dX9_pocketed_14 : decode cX9_pocketed 14 = .ok (.iload_n 1, 1) := by decide +kernel
theorem dX9_pocketed_15 : decode cX9_pocketed 15 = .ok (.aload_n 0, 1) := by decide +kernel
theorem dX9_pocketed_16 : decode cX9_pocketed 16 = .ok (.iload_n 2, 1) := by decide +kernel
theorem dX9_pocketed_17 : decode cX9_pocketed 17 = .ok (.iconst 3, 1) := by decide +kernel
theorem dX9_pocketed_18 : decode cX9_pocketed 18 = .ok (.invokevirtual 99, 3) := by decide +kernel
theorem dX9_pocketed_21 : decode cX9_pocketed 21 = .ok (.iadd, 1) := by decide +kernel
theorem dX9_pocketed_22 : decode cX9_pocketed 22 = .ok (.istore_n 1, 1) := by decide +kernel
theorem dX9_pocketed_23 : decode cX9_pocketed 23 = .ok (.iinc 2 1, 3) := by decide +kernel
theorem dX9_pocketed_26 : decode cX9_pocketed 26 = .ok (.goto (-22), 3) := by decide +kernel
theorem dX9_pocketed_29 : decode cX9_pocketed 29 = .ok (.iload_n 1, 1) := by decide +kernel
theorem dX9_pocketed_30 : decode cX9_pocketed 30 = .ok (.ireturn, 1) := by decide +kernel
theorem dX9_count_0 : decode cX9_count 0 = .ok (.iload_n 1, 1) := by decide +kernel
theorem dX9_count_1 : decode cX9_count 1 = .ok (.tableswitch 155 0 12 #[67, 74, 81, 88, 93, 98, 107, 115, 123, 131, 138, 145, 150], 67) := by decide +kernel
theorem dX9_count_68 : decode cX9_count 68 = .ok (.aload_n 0, 1) := by decide +kernel
theorem dX9_count_69 : decode cX9_count 69 = .ok (.getfield 7, 3) := by decide +kernel
theorem dX9_count_72 : decode cX9_count 72 = .ok (.iconst 0, 1) := by decide +kernel
theorem dX9_count_73 : decode cX9_count 73 = .ok (.iaload, 1) := by decide +kernel
theorem dX9_count_74 : decode cX9_count 74 = .ok (.ireturn, 1) := by decide +kernel
theorem dX9_count_75 : decode cX9_count 75 = .ok (.aload_n 0, 1) := by decide +kernel
theorem dX9_count_76 : decode cX9_count 76 = .ok (.getfield 7, 3) := by decide +kernel
theorem dX9_count_79 : decode cX9_count 79 = .ok (.iconst 1, 1) := by decide +kernel
theorem dX9_count_80 : decode cX9_count 80 = .ok (.iaload, 1) := by decide +kernel
theorem dX9_count_81 : decode cX9_count 81 = .ok (.ireturn, 1) := by decide +kernel
theorem dX9_count_82 : decode cX9_count 82 = .ok (.aload_n 0, 1) := by decide +kernel
theorem dX9_count_83 : decode cX9_count 83 = .ok (.getfield 7, 3) := by decide +kernel
theorem dX9_count_86 : decode cX9_count 86 = .ok (.iconst 2, 1) := by decide +kernel
theorem dX9_count_87 : decode cX9_count 87 = .ok (.iaload, 1) := by decide +kernel
theorem dX9_count_88 : decode cX9_count 88 = .ok (.ireturn, 1) := by decide +kernel
theorem dX9_count_89 : decode cX9_count 89 = .ok (.aload_n 0, 1) := by decide +kernel
theorem dX9_count_90 : decode cX9_count 90 = .ok (.invokevirtual 62, 3) := by decide +kernel
theorem dX9_count_93 : decode cX9_count 93 = .ok (.ireturn, 1) := by decide +kernel
theorem dX9_count_94 : decode cX9_count 94 = .ok (.aload_n 0, 1) := by decide +kernel
theorem dX9_count_95 : decode cX9_count 95 = .ok (.invokevirtual 163, 3) := by decide +kernel
theorem dX9_count_98 : decode cX9_count 98 = .ok (.ireturn, 1) := by decide +kernel
theorem dX9_count_99 : decode cX9_count 99 = .ok (.aload_n 0, 1) := by decide +kernel
theorem dX9_count_100 : decode cX9_count 100 = .ok (.invokevirtual 115, 3) := by decide +kernel
theorem dX9_count_103 : decode cX9_count 103 = .ok (.aload_n 0, 1) := by decide +kernel
theorem dX9_count_104 : decode cX9_count 104 = .ok (.getfield 77, 3) := by decide +kernel
theorem dX9_count_107 : decode cX9_count 107 = .ok (.ireturn, 1) := by decide +kernel
theorem dX9_count_108 : decode cX9_count 108 = .ok (.aload_n 0, 1) := by decide +kernel
theorem dX9_count_109 : decode cX9_count 109 = .ok (.getfield 7, 3) := by decide +kernel
theorem dX9_count_112 : decode cX9_count 112 = .ok (.bipush 6, 2) := by decide +kernel
theorem dX9_count_114 : decode cX9_count 114 = .ok (.iaload, 1) := by decide +kernel
theorem dX9_count_115 : decode cX9_count 115 = .ok (.ireturn, 1) := by decide +kernel
theorem dX9_count_116 : decode cX9_count 116 = .ok (.aload_n 0, 1) := by decide +kernel
theorem dX9_count_117 : decode cX9_count 117 = .ok (.getfield 7, 3) := by decide +kernel
theorem dX9_count_120 : decode cX9_count 120 = .ok (.bipush 7, 2) := by decide +kernel
theorem dX9_count_122 : decode cX9_count 122 = .ok (.iaload, 1) := by decide +kernel
theorem dX9_count_123 : decode cX9_count 123 = .ok (.ireturn, 1) := by decide +kernel
theorem dX9_count_124 : decode cX9_count 124 = .ok (.aload_n 0, 1) := by decide +kernel
theorem dX9_count_125 : decode cX9_count 125 = .ok (.getfield 7, 3) := by decide +kernel
theorem dX9_count_128 : decode cX9_count 128 = .ok (.bipush 8, 2) := by decide +kernel
theorem dX9_count_130 : decode cX9_count 130 = .ok (.iaload, 1) := by decide +kernel
theorem dX9_count_131 : decode cX9_count 131 = .ok (.ireturn, 1) := by decide +kernel
theorem dX9_count_132 : decode cX9_count 132 = .ok (.aload_n 0, 1) := by decide +kernel
theorem dX9_count_133 : decode cX9_count 133 = .ok (.getfield 7, 3) := by decide +kernel
theorem dX9_count_136 : decode cX9_count 136 = .ok (.iconst 4, 1) := by decide +kernel
theorem dX9_count_137 : decode cX9_count 137 = .ok (.iaload, 1) := by decide +kernel
theorem dX9_count_138 : decode cX9_count 138 = .ok (.ireturn, 1) := by decide +kernel
theorem dX9_count_139 : decode cX9_count 139 = .ok (.aload_n 0, 1) := by decide +kernel
theorem dX9_count_140 : decode cX9_count 140 = .ok (.getfield 7, 3) := by decide +kernel
theorem dX9_count_143 : decode cX9_count 143 = .ok (.iconst 3, 1) := by decide +kernel
theorem dX9_count_144 : decode cX9_count 144 = .ok (.iaload, 1) := by decide +kernel
theorem dX9_count_145 : decode cX9_count 145 = .ok (.ireturn, 1) := by decide +kernel
theorem dX9_count_146 : decode cX9_count 146 = .ok (.aload_n 0, 1) := by decide +kernel
theorem dX9_count_147 : decode cX9_count 147 = .ok (.getfield 54, 3) := by decide +kernel
theorem dX9_count_150 : decode cX9_count 150 = .ok (.ireturn, 1) := by decide +kernel
theorem dX9_count_151 : decode cX9_count 151 = .ok (.aload_n 0, 1) := by decide +kernel
theorem dX9_count_152 : decode cX9_count 152 = .ok (.getfield 139, 3) := by decide +kernel
theorem dX9_count_155 : decode cX9_count 155 = .ok (.ireturn, 1) := by decide +kernel
theorem dX9_count_156 : decode cX9_count 156 = .ok (.bipush (-2), 2) := by decide +kernel
theorem dX9_count_158 : decode cX9_count 158 = .ok (.ireturn, 1) := by decide +kernel
theorem dJ9_max_7cf53_0 : decode cJ9_max_7cf53 0 = .ok (.iload_n 0, 1) := by decide +kernel
theorem dJ9_max_7cf53_1 : decode cJ9_max_7cf53 1 = .ok (.iload_n 1, 1) := by decide +kernel
theorem dJ9_max_7cf53_2 : decode cJ9_max_7cf53 2 = .ok (.if_icmp .lt 7, 3) := by decide +kernel
theorem dJ9_max_7cf53_5 : decode cJ9_max_7cf53 5 = .ok (.iload_n 0, 1) := by decide +kernel
theorem dJ9_max_7cf53_6 : decode cJ9_max_7cf53 6 = .ok (.goto 4, 3) := by decide +kernel
theorem dJ9_max_7cf53_9 : decode cJ9_max_7cf53 9 = .ok (.iload_n 1, 1) := by decide +kernel
theorem dJ9_max_7cf53_10 : decode cJ9_max_7cf53 10 = .ok (.ireturn, 1) := by decide +kernel
theorem dJ9_min_7cf53_0 : decode cJ9_min_7cf53 0 = .ok (.iload_n 0, 1) := by decide +kernel
theorem dJ9_min_7cf53_1 : decode cJ9_min_7cf53 1 = .ok (.iload_n 1, 1) := by decide +kernel
theorem dJ9_min_7cf53_2 : decode cJ9_min_7cf53 2 = .ok (.if_icmp .gt 7, 3) := by decide +kernel
theorem dJ9_min_7cf53_5 : decode cJ9_min_7cf53 5 = .ok (.iload_n 0, 1) := by decide +kernel
theorem dJ9_min_7cf53_6 : decode cJ9_min_7cf53 6 = .ok (.goto 4, 3) := by decide +kernel
theorem dJ9_min_7cf53_9 : decode cJ9_min_7cf53 9 = .ok (.iload_n 1, 1) := by decide +kernel
theorem dJ9_min_7cf53_10 : decode cJ9_min_7cf53 10 = .ok (.ireturn, 1) := by decide +kernel
theorem dJ7_fill_53178_0 : decode cJ7_fill_53178 0 = .ok (.iconst 0, 1) := by decide +kernel
theorem dJ7_fill_53178_1 : decode cJ7_fill_53178 1 = .ok (.istore_n 2, 1) := by decide +kernel
theorem dJ7_fill_53178_2 : decode cJ7_fill_53178 2 = .ok (.aload_n 0, 1) := by decide +kernel
theorem dJ7_fill_53178_3 : decode cJ7_fill_53178 3 = .ok (.arraylength, 1) := by decide +kernel
theorem dJ7_fill_53178_4 : decode cJ7_fill_53178 4 = .ok (.istore_n 3, 1) := by decide +kernel
theorem dJ7_fill_53178_5 : decode cJ7_fill_53178 5 = .ok (.iload_n 2, 1) := by decide +kernel
theorem dJ7_fill_53178_6 : decode cJ7_fill_53178 6 = .ok (.iload_n 3, 1) := by decide +kernel
theorem dJ7_fill_53178_7 : decode cJ7_fill_53178 7 = .ok (.if_icmp .ge 13, 3) := by decide +kernel
theorem dJ7_fill_53178_10 : decode cJ7_fill_53178 10 = .ok (.aload_n 0, 1) := by decide +kernel
theorem dJ7_fill_53178_11 : decode cJ7_fill_53178 11 = .ok (.iload_n 2, 1) := by decide +kernel
theorem dJ7_fill_53178_12 : decode cJ7_fill_53178 12 = .ok (.iload_n 1, 1) := by decide +kernel
theorem dJ7_fill_53178_13 : decode cJ7_fill_53178 13 = .ok (.iastore, 1) := by decide +kernel
theorem dJ7_fill_53178_14 : decode cJ7_fill_53178 14 = .ok (.iinc 2 1, 3) := by decide +kernel
theorem dJ7_fill_53178_17 : decode cJ7_fill_53178 17 = .ok (.goto (-12), 3) := by decide +kernel
theorem dJ7_fill_53178_20 : decode cJ7_fill_53178 20 = .ok (.return_, 1) := by decide +kernel
theorem dL_law_0 : decode cL_law 0 = .ok (.new 7, 3) := by decide +kernel
theorem dL_law_3 : decode cL_law 3 = .ok (.dup, 1) := by decide +kernel
theorem dL_law_4 : decode cL_law 4 = .ok (.invokespecial 9, 3) := by decide +kernel
theorem dL_law_7 : decode cL_law 7 = .ok (.astore_n 1, 1) := by decide +kernel
theorem dL_law_8 : decode cL_law 8 = .ok (.new 10, 3) := by decide +kernel
theorem dL_law_11 : decode cL_law 11 = .ok (.dup, 1) := by decide +kernel
theorem dL_law_12 : decode cL_law 12 = .ok (.invokespecial 12, 3) := by decide +kernel
theorem dL_law_15 : decode cL_law 15 = .ok (.astore_n 2, 1) := by decide +kernel
theorem dL_law_16 : decode cL_law 16 = .ok (.iconst 0, 1) := by decide +kernel
theorem dL_law_17 : decode cL_law 17 = .ok (.istore_n 3, 1) := by decide +kernel
theorem dL_law_18 : decode cL_law 18 = .ok (.iload_n 3, 1) := by decide +kernel
theorem dL_law_19 : decode cL_law 19 = .ok (.aload_n 0, 1) := by decide +kernel
theorem dL_law_20 : decode cL_law 20 = .ok (.arraylength, 1) := by decide +kernel
theorem dL_law_21 : decode cL_law 21 = .ok (.bipush 6, 2) := by decide +kernel
theorem dL_law_23 : decode cL_law 23 = .ok (.isub, 1) := by decide +kernel
theorem dL_law_24 : decode cL_law 24 = .ok (.if_icmp .gt 763, 3) := by decide +kernel
theorem dL_law_27 : decode cL_law 27 = .ok (.aload_n 0, 1) := by decide +kernel
theorem dL_law_28 : decode cL_law 28 = .ok (.iload_n 3, 1) := by decide +kernel
theorem dL_law_29 : decode cL_law 29 = .ok (.iaload, 1) := by decide +kernel
theorem dL_law_30 : decode cL_law 30 = .ok (.bipush 31, 2) := by decide +kernel
theorem dL_law_32 : decode cL_law 32 = .ok (.iand, 1) := by decide +kernel
theorem dL_law_33 : decode cL_law 33 = .ok (.tableswitch 748 0 22 #[107, 140, 183, 226, 289, 322, 345, 368, 381, 414, 437, 462, 475, 488, 501, 524, 547, 580, 613, 646, 679, 702, 725], 107) := by decide +kernel
theorem dL_law_140 : decode cL_law 140 = .ok (.aload_n 1, 1) := by decide +kernel
theorem dL_law_141 : decode cL_law 141 = .ok (.aload_n 0, 1) := by decide +kernel
theorem dL_law_142 : decode cL_law 142 = .ok (.iload_n 3, 1) := by decide +kernel
theorem dL_law_143 : decode cL_law 143 = .ok (.iconst 1, 1) := by decide +kernel
theorem dL_law_144 : decode cL_law 144 = .ok (.iadd, 1) := by decide +kernel
theorem dL_law_145 : decode cL_law 145 = .ok (.iaload, 1) := by decide +kernel
theorem dL_law_146 : decode cL_law 146 = .ok (.aload_n 0, 1) := by decide +kernel
theorem dL_law_147 : decode cL_law 147 = .ok (.iload_n 3, 1) := by decide +kernel
theorem dL_law_148 : decode cL_law 148 = .ok (.iconst 2, 1) := by decide +kernel
theorem dL_law_149 : decode cL_law 149 = .ok (.iadd, 1) := by decide +kernel
theorem dL_law_150 : decode cL_law 150 = .ok (.iaload, 1) := by decide +kernel
theorem dL_law_151 : decode cL_law 151 = .ok (.invokevirtual 13, 3) := by decide +kernel
theorem dL_law_154 : decode cL_law 154 = .ok (.aload_n 2, 1) := by decide +kernel
theorem dL_law_155 : decode cL_law 155 = .ok (.aload_n 0, 1) := by decide +kernel
theorem dL_law_156 : decode cL_law 156 = .ok (.iload_n 3, 1) := by decide +kernel
theorem dL_law_157 : decode cL_law 157 = .ok (.iconst 1, 1) := by decide +kernel
theorem dL_law_158 : decode cL_law 158 = .ok (.iadd, 1) := by decide +kernel
theorem dL_law_159 : decode cL_law 159 = .ok (.iaload, 1) := by decide +kernel
theorem dL_law_160 : decode cL_law 160 = .ok (.aload_n 0, 1) := by decide +kernel
theorem dL_law_161 : decode cL_law 161 = .ok (.iload_n 3, 1) := by decide +kernel
theorem dL_law_162 : decode cL_law 162 = .ok (.iconst 2, 1) := by decide +kernel
theorem dL_law_163 : decode cL_law 163 = .ok (.iadd, 1) := by decide +kernel
theorem dL_law_164 : decode cL_law 164 = .ok (.iaload, 1) := by decide +kernel
theorem dL_law_165 : decode cL_law 165 = .ok (.invokevirtual 17, 3) := by decide +kernel
theorem dL_law_168 : decode cL_law 168 = .ok (.if_icmp .eq 613, 3) := by decide +kernel
theorem dL_law_171 : decode cL_law 171 = .ok (.iconst 0, 1) := by decide +kernel
theorem dL_law_172 : decode cL_law 172 = .ok (.ireturn, 1) := by decide +kernel
theorem dL_law_173 : decode cL_law 173 = .ok (.aload_n 1, 1) := by decide +kernel
theorem dL_law_174 : decode cL_law 174 = .ok (.aload_n 0, 1) := by decide +kernel
theorem dL_law_175 : decode cL_law 175 = .ok (.iload_n 3, 1) := by decide +kernel
theorem dL_law_176 : decode cL_law 176 = .ok (.iconst 1, 1) := by decide +kernel
theorem dL_law_177 : decode cL_law 177 = .ok (.iadd, 1) := by decide +kernel
theorem dL_law_178 : decode cL_law 178 = .ok (.iaload, 1) := by decide +kernel
theorem dL_law_179 : decode cL_law 179 = .ok (.aload_n 0, 1) := by decide +kernel
theorem dL_law_180 : decode cL_law 180 = .ok (.iload_n 3, 1) := by decide +kernel
theorem dL_law_181 : decode cL_law 181 = .ok (.iconst 2, 1) := by decide +kernel
theorem dL_law_182 : decode cL_law 182 = .ok (.iadd, 1) := by decide +kernel
theorem dL_law_183 : decode cL_law 183 = .ok (.iaload, 1) := by decide +kernel
theorem dL_law_184 : decode cL_law 184 = .ok (.aload_n 0, 1) := by decide +kernel
theorem dL_law_185 : decode cL_law 185 = .ok (.iload_n 3, 1) := by decide +kernel
theorem dL_law_186 : decode cL_law 186 = .ok (.iconst 3, 1) := by decide +kernel
theorem dL_law_187 : decode cL_law 187 = .ok (.iadd, 1) := by decide +kernel
theorem dL_law_188 : decode cL_law 188 = .ok (.iaload, 1) := by decide +kernel
theorem dL_law_189 : decode cL_law 189 = .ok (.invokevirtual 18, 3) := by decide +kernel
theorem dL_law_192 : decode cL_law 192 = .ok (.aload_n 2, 1) := by decide +kernel
theorem dL_law_193 : decode cL_law 193 = .ok (.aload_n 0, 1) := by decide +kernel
theorem dL_law_194 : decode cL_law 194 = .ok (.iload_n 3, 1) := by decide +kernel
theorem dL_law_195 : decode cL_law 195 = .ok (.iconst 1, 1) := by decide +kernel
theorem dL_law_196 : decode cL_law 196 = .ok (.iadd, 1) := by decide +kernel
theorem dL_law_197 : decode cL_law 197 = .ok (.iaload, 1) := by decide +kernel
theorem dL_law_198 : decode cL_law 198 = .ok (.aload_n 0, 1) := by decide +kernel
theorem dL_law_199 : decode cL_law 199 = .ok (.iload_n 3, 1) := by decide +kernel
theorem dL_law_200 : decode cL_law 200 = .ok (.iconst 2, 1) := by decide +kernel
theorem dL_law_201 : decode cL_law 201 = .ok (.iadd, 1) := by decide +kernel
theorem dL_law_202 : decode cL_law 202 = .ok (.iaload, 1) := by decide +kernel
theorem dL_law_203 : decode cL_law 203 = .ok (.aload_n 0, 1) := by decide +kernel
theorem dL_law_204 : decode cL_law 204 = .ok (.iload_n 3, 1) := by decide +kernel
theorem dL_law_205 : decode cL_law 205 = .ok (.iconst 3, 1) := by decide +kernel
theorem dL_law_206 : decode cL_law 206 = .ok (.iadd, 1) := by decide +kernel
theorem dL_law_207 : decode cL_law 207 = .ok (.iaload, 1) := by decide +kernel
theorem dL_law_208 : decode cL_law 208 = .ok (.invokevirtual 22, 3) := by decide +kernel
theorem dL_law_211 : decode cL_law 211 = .ok (.if_icmp .eq 570, 3) := by decide +kernel
theorem dL_law_214 : decode cL_law 214 = .ok (.iconst 0, 1) := by decide +kernel
theorem dL_law_215 : decode cL_law 215 = .ok (.ireturn, 1) := by decide +kernel
theorem dL_law_216 : decode cL_law 216 = .ok (.aload_n 1, 1) := by decide +kernel
theorem dL_law_217 : decode cL_law 217 = .ok (.aload_n 0, 1) := by decide +kernel
theorem dL_law_218 : decode cL_law 218 = .ok (.iload_n 3, 1) := by decide +kernel
theorem dL_law_219 : decode cL_law 219 = .ok (.iconst 1, 1) := by decide +kernel
theorem dL_law_220 : decode cL_law 220 = .ok (.iadd, 1) := by decide +kernel
theorem dL_law_221 : decode cL_law 221 = .ok (.iaload, 1) := by decide +kernel
theorem dL_law_222 : decode cL_law 222 = .ok (.aload_n 0, 1) := by decide +kernel
theorem dL_law_223 : decode cL_law 223 = .ok (.iload_n 3, 1) := by decide +kernel
theorem dL_law_224 : decode cL_law 224 = .ok (.iconst 2, 1) := by decide +kernel
theorem dL_law_225 : decode cL_law 225 = .ok (.iadd, 1) := by decide +kernel
theorem dL_law_226 : decode cL_law 226 = .ok (.iaload, 1) := by decide +kernel
theorem dL_law_227 : decode cL_law 227 = .ok (.aload_n 0, 1) := by decide +kernel
theorem dL_law_228 : decode cL_law 228 = .ok (.iload_n 3, 1) := by decide +kernel
theorem dL_law_229 : decode cL_law 229 = .ok (.iconst 3, 1) := by decide +kernel
theorem dL_law_230 : decode cL_law 230 = .ok (.iadd, 1) := by decide +kernel
theorem dL_law_231 : decode cL_law 231 = .ok (.iaload, 1) := by decide +kernel
theorem dL_law_232 : decode cL_law 232 = .ok (.invokevirtual 23, 3) := by decide +kernel
theorem dL_law_235 : decode cL_law 235 = .ok (.aload_n 2, 1) := by decide +kernel
theorem dL_law_236 : decode cL_law 236 = .ok (.aload_n 0, 1) := by decide +kernel
theorem dL_law_237 : decode cL_law 237 = .ok (.iload_n 3, 1) := by decide +kernel
theorem dL_law_238 : decode cL_law 238 = .ok (.iconst 1, 1) := by decide +kernel
theorem dL_law_239 : decode cL_law 239 = .ok (.iadd, 1) := by decide +kernel
theorem dL_law_240 : decode cL_law 240 = .ok (.iaload, 1) := by decide +kernel
theorem dL_law_241 : decode cL_law 241 = .ok (.aload_n 0, 1) := by decide +kernel
theorem dL_law_242 : decode cL_law 242 = .ok (.iload_n 3, 1) := by decide +kernel
theorem dL_law_243 : decode cL_law 243 = .ok (.iconst 2, 1) := by decide +kernel
theorem dL_law_244 : decode cL_law 244 = .ok (.iadd, 1) := by decide +kernel
theorem dL_law_245 : decode cL_law 245 = .ok (.iaload, 1) := by decide +kernel
theorem dL_law_246 : decode cL_law 246 = .ok (.aload_n 0, 1) := by decide +kernel
theorem dL_law_247 : decode cL_law 247 = .ok (.iload_n 3, 1) := by decide +kernel
theorem dL_law_248 : decode cL_law 248 = .ok (.iconst 3, 1) := by decide +kernel
theorem dL_law_249 : decode cL_law 249 = .ok (.iadd, 1) := by decide +kernel
theorem dL_law_250 : decode cL_law 250 = .ok (.iaload, 1) := by decide +kernel
theorem dL_law_251 : decode cL_law 251 = .ok (.invokevirtual 26, 3) := by decide +kernel
theorem dL_law_254 : decode cL_law 254 = .ok (.if_icmp .eq 527, 3) := by decide +kernel
theorem dL_law_257 : decode cL_law 257 = .ok (.iconst 0, 1) := by decide +kernel
theorem dL_law_258 : decode cL_law 258 = .ok (.ireturn, 1) := by decide +kernel
theorem dL_law_259 : decode cL_law 259 = .ok (.aload_n 1, 1) := by decide +kernel
theorem dL_law_260 : decode cL_law 260 = .ok (.aload_n 0, 1) := by decide +kernel
theorem dL_law_261 : decode cL_law 261 = .ok (.iload_n 3, 1) := by decide +kernel
theorem dL_law_262 : decode cL_law 262 = .ok (.iconst 1, 1) := by decide +kernel
theorem dL_law_263 : decode cL_law 263 = .ok (.iadd, 1) := by decide +kernel
theorem dL_law_264 : decode cL_law 264 = .ok (.iaload, 1) := by decide +kernel
theorem dL_law_265 : decode cL_law 265 = .ok (.aload_n 0, 1) := by decide +kernel
theorem dL_law_266 : decode cL_law 266 = .ok (.iload_n 3, 1) := by decide +kernel
theorem dL_law_267 : decode cL_law 267 = .ok (.iconst 2, 1) := by decide +kernel
theorem dL_law_268 : decode cL_law 268 = .ok (.iadd, 1) := by decide +kernel
theorem dL_law_269 : decode cL_law 269 = .ok (.iaload, 1) := by decide +kernel
theorem dL_law_270 : decode cL_law 270 = .ok (.aload_n 0, 1) := by decide +kernel
theorem dL_law_271 : decode cL_law 271 = .ok (.iload_n 3, 1) := by decide +kernel
theorem dL_law_272 : decode cL_law 272 = .ok (.iconst 3, 1) := by decide +kernel
theorem dL_law_273 : decode cL_law 273 = .ok (.iadd, 1) := by decide +kernel
theorem dL_law_274 : decode cL_law 274 = .ok (.iaload, 1) := by decide +kernel
theorem dL_law_275 : decode cL_law 275 = .ok (.aload_n 0, 1) := by decide +kernel
theorem dL_law_276 : decode cL_law 276 = .ok (.iload_n 3, 1) := by decide +kernel
theorem dL_law_277 : decode cL_law 277 = .ok (.iconst 4, 1) := by decide +kernel
theorem dL_law_278 : decode cL_law 278 = .ok (.iadd, 1) := by decide +kernel
theorem dL_law_279 : decode cL_law 279 = .ok (.iaload, 1) := by decide +kernel
theorem dL_law_280 : decode cL_law 280 = .ok (.aload_n 0, 1) := by decide +kernel
theorem dL_law_281 : decode cL_law 281 = .ok (.iload_n 3, 1) := by decide +kernel
theorem dL_law_282 : decode cL_law 282 = .ok (.iconst 5, 1) := by decide +kernel
theorem dL_law_283 : decode cL_law 283 = .ok (.iadd, 1) := by decide +kernel
theorem dL_law_284 : decode cL_law 284 = .ok (.iaload, 1) := by decide +kernel
theorem dL_law_285 : decode cL_law 285 = .ok (.invokevirtual 27, 3) := by decide +kernel
theorem dL_law_288 : decode cL_law 288 = .ok (.aload_n 2, 1) := by decide +kernel
theorem dL_law_289 : decode cL_law 289 = .ok (.aload_n 0, 1) := by decide +kernel
theorem dL_law_290 : decode cL_law 290 = .ok (.iload_n 3, 1) := by decide +kernel
theorem dL_law_291 : decode cL_law 291 = .ok (.iconst 1, 1) := by decide +kernel
theorem dL_law_292 : decode cL_law 292 = .ok (.iadd, 1) := by decide +kernel
theorem dL_law_293 : decode cL_law 293 = .ok (.iaload, 1) := by decide +kernel
theorem dL_law_294 : decode cL_law 294 = .ok (.aload_n 0, 1) := by decide +kernel
theorem dL_law_295 : decode cL_law 295 = .ok (.iload_n 3, 1) := by decide +kernel
theorem dL_law_296 : decode cL_law 296 = .ok (.iconst 2, 1) := by decide +kernel
theorem dL_law_297 : decode cL_law 297 = .ok (.iadd, 1) := by decide +kernel
theorem dL_law_298 : decode cL_law 298 = .ok (.iaload, 1) := by decide +kernel
theorem dL_law_299 : decode cL_law 299 = .ok (.aload_n 0, 1) := by decide +kernel
theorem dL_law_300 : decode cL_law 300 = .ok (.iload_n 3, 1) := by decide +kernel
theorem dL_law_301 : decode cL_law 301 = .ok (.iconst 3, 1) := by decide +kernel
theorem dL_law_302 : decode cL_law 302 = .ok (.iadd, 1) := by decide +kernel
theorem dL_law_303 : decode cL_law 303 = .ok (.iaload, 1) := by decide +kernel
theorem dL_law_304 : decode cL_law 304 = .ok (.aload_n 0, 1) := by decide +kernel
theorem dL_law_305 : decode cL_law 305 = .ok (.iload_n 3, 1) := by decide +kernel
theorem dL_law_306 : decode cL_law 306 = .ok (.iconst 4, 1) := by decide +kernel
theorem dL_law_307 : decode cL_law 307 = .ok (.iadd, 1) := by decide +kernel
theorem dL_law_308 : decode cL_law 308 = .ok (.iaload, 1) := by decide +kernel
theorem dL_law_309 : decode cL_law 309 = .ok (.aload_n 0, 1) := by decide +kernel
theorem dL_law_310 : decode cL_law 310 = .ok (.iload_n 3, 1) := by decide +kernel
theorem dL_law_311 : decode cL_law 311 = .ok (.iconst 5, 1) := by decide +kernel
theorem dL_law_312 : decode cL_law 312 = .ok (.iadd, 1) := by decide +kernel
theorem dL_law_313 : decode cL_law 313 = .ok (.iaload, 1) := by decide +kernel
theorem dL_law_314 : decode cL_law 314 = .ok (.invokevirtual 31, 3) := by decide +kernel
theorem dL_law_317 : decode cL_law 317 = .ok (.if_icmp .eq 464, 3) := by decide +kernel
theorem dL_law_320 : decode cL_law 320 = .ok (.iconst 0, 1) := by decide +kernel
theorem dL_law_321 : decode cL_law 321 = .ok (.ireturn, 1) := by decide +kernel
theorem dL_law_322 : decode cL_law 322 = .ok (.aload_n 1, 1) := by decide +kernel
theorem dL_law_323 : decode cL_law 323 = .ok (.aload_n 0, 1) := by decide +kernel
theorem dL_law_324 : decode cL_law 324 = .ok (.iload_n 3, 1) := by decide +kernel
theorem dL_law_325 : decode cL_law 325 = .ok (.iconst 1, 1) := by decide +kernel
theorem dL_law_326 : decode cL_law 326 = .ok (.iadd, 1) := by decide +kernel
theorem dL_law_327 : decode cL_law 327 = .ok (.iaload, 1) := by decide +kernel
theorem dL_law_328 : decode cL_law 328 = .ok (.aload_n 0, 1) := by decide +kernel
theorem dL_law_329 : decode cL_law 329 = .ok (.iload_n 3, 1) := by decide +kernel
theorem dL_law_330 : decode cL_law 330 = .ok (.iconst 2, 1) := by decide +kernel
theorem dL_law_331 : decode cL_law 331 = .ok (.iadd, 1) := by decide +kernel
theorem dL_law_332 : decode cL_law 332 = .ok (.iaload, 1) := by decide +kernel
theorem dL_law_333 : decode cL_law 333 = .ok (.invokevirtual 32, 3) := by decide +kernel
theorem dL_law_336 : decode cL_law 336 = .ok (.aload_n 2, 1) := by decide +kernel
theorem dL_law_337 : decode cL_law 337 = .ok (.aload_n 0, 1) := by decide +kernel
theorem dL_law_338 : decode cL_law 338 = .ok (.iload_n 3, 1) := by decide +kernel
theorem dL_law_339 : decode cL_law 339 = .ok (.iconst 1, 1) := by decide +kernel
theorem dL_law_340 : decode cL_law 340 = .ok (.iadd, 1) := by decide +kernel
theorem dL_law_341 : decode cL_law 341 = .ok (.iaload, 1) := by decide +kernel
theorem dL_law_342 : decode cL_law 342 = .ok (.aload_n 0, 1) := by decide +kernel
theorem dL_law_343 : decode cL_law 343 = .ok (.iload_n 3, 1) := by decide +kernel
theorem dL_law_344 : decode cL_law 344 = .ok (.iconst 2, 1) := by decide +kernel
theorem dL_law_345 : decode cL_law 345 = .ok (.iadd, 1) := by decide +kernel
theorem dL_law_346 : decode cL_law 346 = .ok (.iaload, 1) := by decide +kernel
theorem dL_law_347 : decode cL_law 347 = .ok (.invokevirtual 35, 3) := by decide +kernel
theorem dL_law_350 : decode cL_law 350 = .ok (.if_icmp .eq 431, 3) := by decide +kernel
theorem dL_law_353 : decode cL_law 353 = .ok (.iconst 0, 1) := by decide +kernel
theorem dL_law_354 : decode cL_law 354 = .ok (.ireturn, 1) := by decide +kernel
theorem dL_law_355 : decode cL_law 355 = .ok (.aload_n 1, 1) := by decide +kernel
theorem dL_law_356 : decode cL_law 356 = .ok (.aload_n 0, 1) := by decide +kernel
theorem dL_law_357 : decode cL_law 357 = .ok (.iload_n 3, 1) := by decide +kernel
theorem dL_law_358 : decode cL_law 358 = .ok (.iconst 1, 1) := by decide +kernel
theorem dL_law_359 : decode cL_law 359 = .ok (.iadd, 1) := by decide +kernel
theorem dL_law_360 : decode cL_law 360 = .ok (.iaload, 1) := by decide +kernel
theorem dL_law_361 : decode cL_law 361 = .ok (.invokevirtual 36, 3) := by decide +kernel
theorem dL_law_364 : decode cL_law 364 = .ok (.aload_n 2, 1) := by decide +kernel
theorem dL_law_365 : decode cL_law 365 = .ok (.aload_n 0, 1) := by decide +kernel
theorem dL_law_366 : decode cL_law 366 = .ok (.iload_n 3, 1) := by decide +kernel
theorem dL_law_367 : decode cL_law 367 = .ok (.iconst 1, 1) := by decide +kernel
theorem dL_law_368 : decode cL_law 368 = .ok (.iadd, 1) := by decide +kernel
theorem dL_law_369 : decode cL_law 369 = .ok (.iaload, 1) := by decide +kernel
theorem dL_law_370 : decode cL_law 370 = .ok (.invokevirtual 40, 3) := by decide +kernel
theorem dL_law_373 : decode cL_law 373 = .ok (.if_icmp .eq 408, 3) := by decide +kernel
theorem dL_law_376 : decode cL_law 376 = .ok (.iconst 0, 1) := by decide +kernel
theorem dL_law_377 : decode cL_law 377 = .ok (.ireturn, 1) := by decide +kernel
theorem dL_law_378 : decode cL_law 378 = .ok (.aload_n 1, 1) := by decide +kernel
theorem dL_law_379 : decode cL_law 379 = .ok (.aload_n 0, 1) := by decide +kernel
theorem dL_law_380 : decode cL_law 380 = .ok (.iload_n 3, 1) := by decide +kernel
theorem dL_law_381 : decode cL_law 381 = .ok (.iconst 1, 1) := by decide +kernel
theorem dL_law_382 : decode cL_law 382 = .ok (.iadd, 1) := by decide +kernel
theorem dL_law_383 : decode cL_law 383 = .ok (.iaload, 1) := by decide +kernel
theorem dL_law_384 : decode cL_law 384 = .ok (.invokevirtual 41, 3) := by decide +kernel
theorem dL_law_387 : decode cL_law 387 = .ok (.aload_n 2, 1) := by decide +kernel
theorem dL_law_388 : decode cL_law 388 = .ok (.aload_n 0, 1) := by decide +kernel
theorem dL_law_389 : decode cL_law 389 = .ok (.iload_n 3, 1) := by decide +kernel
theorem dL_law_390 : decode cL_law 390 = .ok (.iconst 1, 1) := by decide +kernel
theorem dL_law_391 : decode cL_law 391 = .ok (.iadd, 1) := by decide +kernel
theorem dL_law_392 : decode cL_law 392 = .ok (.iaload, 1) := by decide +kernel
theorem dL_law_393 : decode cL_law 393 = .ok (.invokevirtual 44, 3) := by decide +kernel
theorem dL_law_396 : decode cL_law 396 = .ok (.if_icmp .eq 385, 3) := by decide +kernel
theorem dL_law_399 : decode cL_law 399 = .ok (.iconst 0, 1) := by decide +kernel
theorem dL_law_400 : decode cL_law 400 = .ok (.ireturn, 1) := by decide +kernel
theorem dL_law_401 : decode cL_law 401 = .ok (.aload_n 1, 1) := by decide +kernel
theorem dL_law_402 : decode cL_law 402 = .ok (.invokevirtual 45, 3) := by decide +kernel
theorem dL_law_405 : decode cL_law 405 = .ok (.aload_n 2, 1) := by decide +kernel
theorem dL_law_406 : decode cL_law 406 = .ok (.invokevirtual 49, 3) := by decide +kernel
theorem dL_law_409 : decode cL_law 409 = .ok (.if_icmp .eq 372, 3) := by decide +kernel
theorem dL_law_412 : decode cL_law 412 = .ok (.iconst 0, 1) := by decide +kernel
theorem dL_law_413 : decode cL_law 413 = .ok (.ireturn, 1) := by decide +kernel
theorem dL_law_414 : decode cL_law 414 = .ok (.aload_n 1, 1) := by decide +kernel
theorem dL_law_415 : decode cL_law 415 = .ok (.aload_n 0, 1) := by decide +kernel
theorem dL_law_416 : decode cL_law 416 = .ok (.iload_n 3, 1) := by decide +kernel
theorem dL_law_417 : decode cL_law 417 = .ok (.iconst 1, 1) := by decide +kernel
theorem dL_law_418 : decode cL_law 418 = .ok (.iadd, 1) := by decide +kernel
theorem dL_law_419 : decode cL_law 419 = .ok (.iaload, 1) := by decide +kernel
theorem dL_law_420 : decode cL_law 420 = .ok (.aload_n 0, 1) := by decide +kernel
theorem dL_law_421 : decode cL_law 421 = .ok (.iload_n 3, 1) := by decide +kernel
theorem dL_law_422 : decode cL_law 422 = .ok (.iconst 2, 1) := by decide +kernel
theorem dL_law_423 : decode cL_law 423 = .ok (.iadd, 1) := by decide +kernel
theorem dL_law_424 : decode cL_law 424 = .ok (.iaload, 1) := by decide +kernel
theorem dL_law_425 : decode cL_law 425 = .ok (.invokevirtual 50, 3) := by decide +kernel
theorem dL_law_428 : decode cL_law 428 = .ok (.aload_n 2, 1) := by decide +kernel
theorem dL_law_429 : decode cL_law 429 = .ok (.aload_n 0, 1) := by decide +kernel
theorem dL_law_430 : decode cL_law 430 = .ok (.iload_n 3, 1) := by decide +kernel
theorem dL_law_431 : decode cL_law 431 = .ok (.iconst 1, 1) := by decide +kernel
theorem dL_law_432 : decode cL_law 432 = .ok (.iadd, 1) := by decide +kernel
theorem dL_law_433 : decode cL_law 433 = .ok (.iaload, 1) := by decide +kernel
theorem dL_law_434 : decode cL_law 434 = .ok (.aload_n 0, 1) := by decide +kernel
theorem dL_law_435 : decode cL_law 435 = .ok (.iload_n 3, 1) := by decide +kernel
theorem dL_law_436 : decode cL_law 436 = .ok (.iconst 2, 1) := by decide +kernel
theorem dL_law_437 : decode cL_law 437 = .ok (.iadd, 1) := by decide +kernel
theorem dL_law_438 : decode cL_law 438 = .ok (.iaload, 1) := by decide +kernel
theorem dL_law_439 : decode cL_law 439 = .ok (.invokevirtual 53, 3) := by decide +kernel
theorem dL_law_442 : decode cL_law 442 = .ok (.if_icmp .eq 339, 3) := by decide +kernel
theorem dL_law_445 : decode cL_law 445 = .ok (.iconst 0, 1) := by decide +kernel
theorem dL_law_446 : decode cL_law 446 = .ok (.ireturn, 1) := by decide +kernel
theorem dL_law_447 : decode cL_law 447 = .ok (.aload_n 1, 1) := by decide +kernel
theorem dL_law_448 : decode cL_law 448 = .ok (.aload_n 0, 1) := by decide +kernel
theorem dL_law_449 : decode cL_law 449 = .ok (.iload_n 3, 1) := by decide +kernel
theorem dL_law_450 : decode cL_law 450 = .ok (.iconst 1, 1) := by decide +kernel
theorem dL_law_451 : decode cL_law 451 = .ok (.iadd, 1) := by decide +kernel
theorem dL_law_452 : decode cL_law 452 = .ok (.iaload, 1) := by decide +kernel
theorem dL_law_453 : decode cL_law 453 = .ok (.invokevirtual 54, 3) := by decide +kernel
theorem dL_law_456 : decode cL_law 456 = .ok (.aload_n 2, 1) := by decide +kernel
theorem dL_law_457 : decode cL_law 457 = .ok (.aload_n 0, 1) := by decide +kernel
theorem dL_law_458 : decode cL_law 458 = .ok (.iload_n 3, 1) := by decide +kernel
theorem dL_law_459 : decode cL_law 459 = .ok (.iconst 1, 1) := by decide +kernel
theorem dL_law_460 : decode cL_law 460 = .ok (.iadd, 1) := by decide +kernel
theorem dL_law_461 : decode cL_law 461 = .ok (.iaload, 1) := by decide +kernel
theorem dL_law_462 : decode cL_law 462 = .ok (.invokevirtual 57, 3) := by decide +kernel
theorem dL_law_465 : decode cL_law 465 = .ok (.if_icmp .eq 316, 3) := by decide +kernel
theorem dL_law_468 : decode cL_law 468 = .ok (.iconst 0, 1) := by decide +kernel
theorem dL_law_469 : decode cL_law 469 = .ok (.ireturn, 1) := by decide +kernel
theorem dL_law_470 : decode cL_law 470 = .ok (.aload_n 1, 1) := by decide +kernel
theorem dL_law_471 : decode cL_law 471 = .ok (.aload_n 0, 1) := by decide +kernel
theorem dL_law_472 : decode cL_law 472 = .ok (.iload_n 3, 1) := by decide +kernel
theorem dL_law_473 : decode cL_law 473 = .ok (.iconst 1, 1) := by decide +kernel
theorem dL_law_474 : decode cL_law 474 = .ok (.iadd, 1) := by decide +kernel
theorem dL_law_475 : decode cL_law 475 = .ok (.iaload, 1) := by decide +kernel
theorem dL_law_476 : decode cL_law 476 = .ok (.i2c, 1) := by decide +kernel
theorem dL_law_477 : decode cL_law 477 = .ok (.invokevirtual 58, 3) := by decide +kernel
theorem dL_law_480 : decode cL_law 480 = .ok (.aload_n 2, 1) := by decide +kernel
theorem dL_law_481 : decode cL_law 481 = .ok (.aload_n 0, 1) := by decide +kernel
theorem dL_law_482 : decode cL_law 482 = .ok (.iload_n 3, 1) := by decide +kernel
theorem dL_law_483 : decode cL_law 483 = .ok (.iconst 1, 1) := by decide +kernel
theorem dL_law_484 : decode cL_law 484 = .ok (.iadd, 1) := by decide +kernel
theorem dL_law_485 : decode cL_law 485 = .ok (.iaload, 1) := by decide +kernel
theorem dL_law_486 : decode cL_law 486 = .ok (.i2c, 1) := by decide +kernel
theorem dL_law_487 : decode cL_law 487 = .ok (.invokevirtual 62, 3) := by decide +kernel
theorem dL_law_490 : decode cL_law 490 = .ok (.if_icmp .eq 291, 3) := by decide +kernel
theorem dL_law_493 : decode cL_law 493 = .ok (.iconst 0, 1) := by decide +kernel
theorem dL_law_494 : decode cL_law 494 = .ok (.ireturn, 1) := by decide +kernel
theorem dL_law_495 : decode cL_law 495 = .ok (.aload_n 1, 1) := by decide +kernel
theorem dL_law_496 : decode cL_law 496 = .ok (.invokevirtual 63, 3) := by decide +kernel
theorem dL_law_499 : decode cL_law 499 = .ok (.aload_n 2, 1) := by decide +kernel
theorem dL_law_500 : decode cL_law 500 = .ok (.invokevirtual 66, 3) := by decide +kernel
theorem dL_law_503 : decode cL_law 503 = .ok (.if_icmp .eq 278, 3) := by decide +kernel
theorem dL_law_506 : decode cL_law 506 = .ok (.iconst 0, 1) := by decide +kernel
theorem dL_law_507 : decode cL_law 507 = .ok (.ireturn, 1) := by decide +kernel
theorem dL_law_508 : decode cL_law 508 = .ok (.aload_n 1, 1) := by decide +kernel
theorem dL_law_509 : decode cL_law 509 = .ok (.invokevirtual 67, 3) := by decide +kernel
theorem dL_law_512 : decode cL_law 512 = .ok (.aload_n 2, 1) := by decide +kernel
theorem dL_law_513 : decode cL_law 513 = .ok (.invokevirtual 70, 3) := by decide +kernel
theorem dL_law_516 : decode cL_law 516 = .ok (.if_icmp .eq 265, 3) := by decide +kernel
theorem dL_law_519 : decode cL_law 519 = .ok (.iconst 0, 1) := by decide +kernel
theorem dL_law_520 : decode cL_law 520 = .ok (.ireturn, 1) := by decide +kernel
theorem dL_law_521 : decode cL_law 521 = .ok (.aload_n 1, 1) := by decide +kernel
theorem dL_law_522 : decode cL_law 522 = .ok (.invokevirtual 71, 3) := by decide +kernel
theorem dL_law_525 : decode cL_law 525 = .ok (.aload_n 2, 1) := by decide +kernel
theorem dL_law_526 : decode cL_law 526 = .ok (.invokevirtual 74, 3) := by decide +kernel
theorem dL_law_529 : decode cL_law 529 = .ok (.if_icmp .eq 252, 3) := by decide +kernel
theorem dL_law_532 : decode cL_law 532 = .ok (.iconst 0, 1) := by decide +kernel
theorem dL_law_533 : decode cL_law 533 = .ok (.ireturn, 1) := by decide +kernel
theorem dL_law_534 : decode cL_law 534 = .ok (.aload_n 1, 1) := by decide +kernel
theorem dL_law_535 : decode cL_law 535 = .ok (.aload_n 0, 1) := by decide +kernel
theorem dL_law_536 : decode cL_law 536 = .ok (.iload_n 3, 1) := by decide +kernel
theorem dL_law_537 : decode cL_law 537 = .ok (.iconst 1, 1) := by decide +kernel
theorem dL_law_538 : decode cL_law 538 = .ok (.iadd, 1) := by decide +kernel
theorem dL_law_539 : decode cL_law 539 = .ok (.iaload, 1) := by decide +kernel
theorem dL_law_540 : decode cL_law 540 = .ok (.invokevirtual 75, 3) := by decide +kernel
theorem dL_law_543 : decode cL_law 543 = .ok (.aload_n 2, 1) := by decide +kernel
theorem dL_law_544 : decode cL_law 544 = .ok (.aload_n 0, 1) := by decide +kernel
theorem dL_law_545 : decode cL_law 545 = .ok (.iload_n 3, 1) := by decide +kernel
theorem dL_law_546 : decode cL_law 546 = .ok (.iconst 1, 1) := by decide +kernel
theorem dL_law_547 : decode cL_law 547 = .ok (.iadd, 1) := by decide +kernel
theorem dL_law_548 : decode cL_law 548 = .ok (.iaload, 1) := by decide +kernel
theorem dL_law_549 : decode cL_law 549 = .ok (.invokevirtual 78, 3) := by decide +kernel
theorem dL_law_552 : decode cL_law 552 = .ok (.if_icmp .eq 229, 3) := by decide +kernel
theorem dL_law_555 : decode cL_law 555 = .ok (.iconst 0, 1) := by decide +kernel
theorem dL_law_556 : decode cL_law 556 = .ok (.ireturn, 1) := by decide +kernel
theorem dL_law_557 : decode cL_law 557 = .ok (.aload_n 1, 1) := by decide +kernel
theorem dL_law_558 : decode cL_law 558 = .ok (.aload_n 0, 1) := by decide +kernel
theorem dL_law_559 : decode cL_law 559 = .ok (.iload_n 3, 1) := by decide +kernel
theorem dL_law_560 : decode cL_law 560 = .ok (.iconst 1, 1) := by decide +kernel
theorem dL_law_561 : decode cL_law 561 = .ok (.iadd, 1) := by decide +kernel
theorem dL_law_562 : decode cL_law 562 = .ok (.iaload, 1) := by decide +kernel
theorem dL_law_563 : decode cL_law 563 = .ok (.invokevirtual 79, 3) := by decide +kernel
theorem dL_law_566 : decode cL_law 566 = .ok (.aload_n 2, 1) := by decide +kernel
theorem dL_law_567 : decode cL_law 567 = .ok (.aload_n 0, 1) := by decide +kernel
theorem dL_law_568 : decode cL_law 568 = .ok (.iload_n 3, 1) := by decide +kernel
theorem dL_law_569 : decode cL_law 569 = .ok (.iconst 1, 1) := by decide +kernel
theorem dL_law_570 : decode cL_law 570 = .ok (.iadd, 1) := by decide +kernel
theorem dL_law_571 : decode cL_law 571 = .ok (.iaload, 1) := by decide +kernel
theorem dL_law_572 : decode cL_law 572 = .ok (.invokevirtual 82, 3) := by decide +kernel
theorem dL_law_575 : decode cL_law 575 = .ok (.if_icmp .eq 206, 3) := by decide +kernel
theorem dL_law_578 : decode cL_law 578 = .ok (.iconst 0, 1) := by decide +kernel
theorem dL_law_579 : decode cL_law 579 = .ok (.ireturn, 1) := by decide +kernel
theorem dL_law_580 : decode cL_law 580 = .ok (.aload_n 1, 1) := by decide +kernel
theorem dL_law_581 : decode cL_law 581 = .ok (.aload_n 0, 1) := by decide +kernel
theorem dL_law_582 : decode cL_law 582 = .ok (.iload_n 3, 1) := by decide +kernel
theorem dL_law_583 : decode cL_law 583 = .ok (.iconst 1, 1) := by decide +kernel
theorem dL_law_584 : decode cL_law 584 = .ok (.iadd, 1) := by decide +kernel
theorem dL_law_585 : decode cL_law 585 = .ok (.iaload, 1) := by decide +kernel
theorem dL_law_586 : decode cL_law 586 = .ok (.aload_n 0, 1) := by decide +kernel
theorem dL_law_587 : decode cL_law 587 = .ok (.iload_n 3, 1) := by decide +kernel
theorem dL_law_588 : decode cL_law 588 = .ok (.iconst 2, 1) := by decide +kernel
theorem dL_law_589 : decode cL_law 589 = .ok (.iadd, 1) := by decide +kernel
theorem dL_law_590 : decode cL_law 590 = .ok (.iaload, 1) := by decide +kernel
theorem dL_law_591 : decode cL_law 591 = .ok (.invokevirtual 83, 3) := by decide +kernel
theorem dL_law_594 : decode cL_law 594 = .ok (.aload_n 2, 1) := by decide +kernel
theorem dL_law_595 : decode cL_law 595 = .ok (.aload_n 0, 1) := by decide +kernel
theorem dL_law_596 : decode cL_law 596 = .ok (.iload_n 3, 1) := by decide +kernel
theorem dL_law_597 : decode cL_law 597 = .ok (.iconst 1, 1) := by decide +kernel
theorem dL_law_598 : decode cL_law 598 = .ok (.iadd, 1) := by decide +kernel
theorem dL_law_599 : decode cL_law 599 = .ok (.iaload, 1) := by decide +kernel
theorem dL_law_600 : decode cL_law 600 = .ok (.aload_n 0, 1) := by decide +kernel
theorem dL_law_601 : decode cL_law 601 = .ok (.iload_n 3, 1) := by decide +kernel
theorem dL_law_602 : decode cL_law 602 = .ok (.iconst 2, 1) := by decide +kernel
theorem dL_law_603 : decode cL_law 603 = .ok (.iadd, 1) := by decide +kernel
theorem dL_law_604 : decode cL_law 604 = .ok (.iaload, 1) := by decide +kernel
theorem dL_law_605 : decode cL_law 605 = .ok (.invokevirtual 86, 3) := by decide +kernel
theorem dL_law_608 : decode cL_law 608 = .ok (.if_icmp .eq 173, 3) := by decide +kernel
theorem dL_law_611 : decode cL_law 611 = .ok (.iconst 0, 1) := by decide +kernel
theorem dL_law_612 : decode cL_law 612 = .ok (.ireturn, 1) := by decide +kernel
theorem dL_law_613 : decode cL_law 613 = .ok (.aload_n 1, 1) := by decide +kernel
theorem dL_law_614 : decode cL_law 614 = .ok (.aload_n 0, 1) := by decide +kernel
theorem dL_law_615 : decode cL_law 615 = .ok (.iload_n 3, 1) := by decide +kernel
theorem dL_law_616 : decode cL_law 616 = .ok (.iconst 1, 1) := by decide +kernel
theorem dL_law_617 : decode cL_law 617 = .ok (.iadd, 1) := by decide +kernel
theorem dL_law_618 : decode cL_law 618 = .ok (.iaload, 1) := by decide +kernel
theorem dL_law_619 : decode cL_law 619 = .ok (.aload_n 0, 1) := by decide +kernel
theorem dL_law_620 : decode cL_law 620 = .ok (.iload_n 3, 1) := by decide +kernel
theorem dL_law_621 : decode cL_law 621 = .ok (.iconst 2, 1) := by decide +kernel
theorem dL_law_622 : decode cL_law 622 = .ok (.iadd, 1) := by decide +kernel
theorem dL_law_623 : decode cL_law 623 = .ok (.iaload, 1) := by decide +kernel
theorem dL_law_624 : decode cL_law 624 = .ok (.invokevirtual 87, 3) := by decide +kernel
theorem dL_law_627 : decode cL_law 627 = .ok (.aload_n 2, 1) := by decide +kernel
theorem dL_law_628 : decode cL_law 628 = .ok (.aload_n 0, 1) := by decide +kernel
theorem dL_law_629 : decode cL_law 629 = .ok (.iload_n 3, 1) := by decide +kernel
theorem dL_law_630 : decode cL_law 630 = .ok (.iconst 1, 1) := by decide +kernel
theorem dL_law_631 : decode cL_law 631 = .ok (.iadd, 1) := by decide +kernel
theorem dL_law_632 : decode cL_law 632 = .ok (.iaload, 1) := by decide +kernel
theorem dL_law_633 : decode cL_law 633 = .ok (.aload_n 0, 1) := by decide +kernel
theorem dL_law_634 : decode cL_law 634 = .ok (.iload_n 3, 1) := by decide +kernel
theorem dL_law_635 : decode cL_law 635 = .ok (.iconst 2, 1) := by decide +kernel
theorem dL_law_636 : decode cL_law 636 = .ok (.iadd, 1) := by decide +kernel
theorem dL_law_637 : decode cL_law 637 = .ok (.iaload, 1) := by decide +kernel
theorem dL_law_638 : decode cL_law 638 = .ok (.invokevirtual 90, 3) := by decide +kernel
theorem dL_law_641 : decode cL_law 641 = .ok (.if_icmp .eq 140, 3) := by decide +kernel
theorem dL_law_644 : decode cL_law 644 = .ok (.iconst 0, 1) := by decide +kernel
theorem dL_law_645 : decode cL_law 645 = .ok (.ireturn, 1) := by decide +kernel
theorem dL_law_646 : decode cL_law 646 = .ok (.aload_n 1, 1) := by decide +kernel
theorem dL_law_647 : decode cL_law 647 = .ok (.aload_n 0, 1) := by decide +kernel
theorem dL_law_648 : decode cL_law 648 = .ok (.iload_n 3, 1) := by decide +kernel
theorem dL_law_649 : decode cL_law 649 = .ok (.iconst 1, 1) := by decide +kernel
theorem dL_law_650 : decode cL_law 650 = .ok (.iadd, 1) := by decide +kernel
theorem dL_law_651 : decode cL_law 651 = .ok (.iaload, 1) := by decide +kernel
theorem dL_law_652 : decode cL_law 652 = .ok (.aload_n 0, 1) := by decide +kernel
theorem dL_law_653 : decode cL_law 653 = .ok (.iload_n 3, 1) := by decide +kernel
theorem dL_law_654 : decode cL_law 654 = .ok (.iconst 2, 1) := by decide +kernel
theorem dL_law_655 : decode cL_law 655 = .ok (.iadd, 1) := by decide +kernel
theorem dL_law_656 : decode cL_law 656 = .ok (.iaload, 1) := by decide +kernel
theorem dL_law_657 : decode cL_law 657 = .ok (.invokevirtual 91, 3) := by decide +kernel
theorem dL_law_660 : decode cL_law 660 = .ok (.aload_n 2, 1) := by decide +kernel
theorem dL_law_661 : decode cL_law 661 = .ok (.aload_n 0, 1) := by decide +kernel
theorem dL_law_662 : decode cL_law 662 = .ok (.iload_n 3, 1) := by decide +kernel
theorem dL_law_663 : decode cL_law 663 = .ok (.iconst 1, 1) := by decide +kernel
theorem dL_law_664 : decode cL_law 664 = .ok (.iadd, 1) := by decide +kernel
theorem dL_law_665 : decode cL_law 665 = .ok (.iaload, 1) := by decide +kernel
theorem dL_law_666 : decode cL_law 666 = .ok (.aload_n 0, 1) := by decide +kernel
theorem dL_law_667 : decode cL_law 667 = .ok (.iload_n 3, 1) := by decide +kernel
theorem dL_law_668 : decode cL_law 668 = .ok (.iconst 2, 1) := by decide +kernel
theorem dL_law_669 : decode cL_law 669 = .ok (.iadd, 1) := by decide +kernel
theorem dL_law_670 : decode cL_law 670 = .ok (.iaload, 1) := by decide +kernel
theorem dL_law_671 : decode cL_law 671 = .ok (.invokevirtual 94, 3) := by decide +kernel
theorem dL_law_674 : decode cL_law 674 = .ok (.if_icmp .eq 107, 3) := by decide +kernel
theorem dL_law_677 : decode cL_law 677 = .ok (.iconst 0, 1) := by decide +kernel
theorem dL_law_678 : decode cL_law 678 = .ok (.ireturn, 1) := by decide +kernel
theorem dL_law_679 : decode cL_law 679 = .ok (.aload_n 1, 1) := by decide +kernel
theorem dL_law_680 : decode cL_law 680 = .ok (.aload_n 0, 1) := by decide +kernel
theorem dL_law_681 : decode cL_law 681 = .ok (.iload_n 3, 1) := by decide +kernel
theorem dL_law_682 : decode cL_law 682 = .ok (.iconst 1, 1) := by decide +kernel
theorem dL_law_683 : decode cL_law 683 = .ok (.iadd, 1) := by decide +kernel
theorem dL_law_684 : decode cL_law 684 = .ok (.iaload, 1) := by decide +kernel
theorem dL_law_685 : decode cL_law 685 = .ok (.aload_n 0, 1) := by decide +kernel
theorem dL_law_686 : decode cL_law 686 = .ok (.iload_n 3, 1) := by decide +kernel
theorem dL_law_687 : decode cL_law 687 = .ok (.iconst 2, 1) := by decide +kernel
theorem dL_law_688 : decode cL_law 688 = .ok (.iadd, 1) := by decide +kernel
theorem dL_law_689 : decode cL_law 689 = .ok (.iaload, 1) := by decide +kernel
theorem dL_law_690 : decode cL_law 690 = .ok (.invokevirtual 95, 3) := by decide +kernel
theorem dL_law_693 : decode cL_law 693 = .ok (.aload_n 2, 1) := by decide +kernel
theorem dL_law_694 : decode cL_law 694 = .ok (.aload_n 0, 1) := by decide +kernel
theorem dL_law_695 : decode cL_law 695 = .ok (.iload_n 3, 1) := by decide +kernel
theorem dL_law_696 : decode cL_law 696 = .ok (.iconst 1, 1) := by decide +kernel
theorem dL_law_697 : decode cL_law 697 = .ok (.iadd, 1) := by decide +kernel
theorem dL_law_698 : decode cL_law 698 = .ok (.iaload, 1) := by decide +kernel
theorem dL_law_699 : decode cL_law 699 = .ok (.aload_n 0, 1) := by decide +kernel
theorem dL_law_700 : decode cL_law 700 = .ok (.iload_n 3, 1) := by decide +kernel
theorem dL_law_701 : decode cL_law 701 = .ok (.iconst 2, 1) := by decide +kernel
theorem dL_law_702 : decode cL_law 702 = .ok (.iadd, 1) := by decide +kernel
theorem dL_law_703 : decode cL_law 703 = .ok (.iaload, 1) := by decide +kernel
theorem dL_law_704 : decode cL_law 704 = .ok (.invokevirtual 98, 3) := by decide +kernel
theorem dL_law_707 : decode cL_law 707 = .ok (.if_icmp .eq 74, 3) := by decide +kernel
theorem dL_law_710 : decode cL_law 710 = .ok (.iconst 0, 1) := by decide +kernel
theorem dL_law_711 : decode cL_law 711 = .ok (.ireturn, 1) := by decide +kernel
theorem dL_law_712 : decode cL_law 712 = .ok (.aload_n 1, 1) := by decide +kernel
theorem dL_law_713 : decode cL_law 713 = .ok (.aload_n 0, 1) := by decide +kernel
theorem dL_law_714 : decode cL_law 714 = .ok (.iload_n 3, 1) := by decide +kernel
theorem dL_law_715 : decode cL_law 715 = .ok (.iconst 1, 1) := by decide +kernel
theorem dL_law_716 : decode cL_law 716 = .ok (.iadd, 1) := by decide +kernel
theorem dL_law_717 : decode cL_law 717 = .ok (.iaload, 1) := by decide +kernel
theorem dL_law_718 : decode cL_law 718 = .ok (.invokevirtual 99, 3) := by decide +kernel
theorem dL_law_721 : decode cL_law 721 = .ok (.aload_n 2, 1) := by decide +kernel
theorem dL_law_722 : decode cL_law 722 = .ok (.aload_n 0, 1) := by decide +kernel
theorem dL_law_723 : decode cL_law 723 = .ok (.iload_n 3, 1) := by decide +kernel
theorem dL_law_724 : decode cL_law 724 = .ok (.iconst 1, 1) := by decide +kernel
theorem dL_law_725 : decode cL_law 725 = .ok (.iadd, 1) := by decide +kernel
theorem dL_law_726 : decode cL_law 726 = .ok (.iaload, 1) := by decide +kernel
theorem dL_law_727 : decode cL_law 727 = .ok (.invokevirtual 102, 3) := by decide +kernel
theorem dL_law_730 : decode cL_law 730 = .ok (.if_icmp .eq 51, 3) := by decide +kernel
theorem dL_law_733 : decode cL_law 733 = .ok (.iconst 0, 1) := by decide +kernel
theorem dL_law_734 : decode cL_law 734 = .ok (.ireturn, 1) := by decide +kernel
theorem dL_law_735 : decode cL_law 735 = .ok (.aload_n 1, 1) := by decide +kernel
theorem dL_law_736 : decode cL_law 736 = .ok (.aload_n 0, 1) := by decide +kernel
theorem dL_law_737 : decode cL_law 737 = .ok (.iload_n 3, 1) := by decide +kernel
theorem dL_law_738 : decode cL_law 738 = .ok (.iconst 1, 1) := by decide +kernel
theorem dL_law_739 : decode cL_law 739 = .ok (.iadd, 1) := by decide +kernel
theorem dL_law_740 : decode cL_law 740 = .ok (.iaload, 1) := by decide +kernel
theorem dL_law_741 : decode cL_law 741 = .ok (.invokevirtual 103, 3) := by decide +kernel
theorem dL_law_744 : decode cL_law 744 = .ok (.aload_n 2, 1) := by decide +kernel
theorem dL_law_745 : decode cL_law 745 = .ok (.aload_n 0, 1) := by decide +kernel
theorem dL_law_746 : decode cL_law 746 = .ok (.iload_n 3, 1) := by decide +kernel
theorem dL_law_747 : decode cL_law 747 = .ok (.iconst 1, 1) := by decide +kernel
theorem dL_law_748 : decode cL_law 748 = .ok (.iadd, 1) := by decide +kernel
theorem dL_law_749 : decode cL_law 749 = .ok (.iaload, 1) := by decide +kernel
theorem dL_law_750 : decode cL_law 750 = .ok (.invokevirtual 106, 3) := by decide +kernel
theorem dL_law_753 : decode cL_law 753 = .ok (.if_icmp .eq 28, 3) := by decide +kernel
theorem dL_law_756 : decode cL_law 756 = .ok (.iconst 0, 1) := by decide +kernel
theorem dL_law_757 : decode cL_law 757 = .ok (.ireturn, 1) := by decide +kernel
theorem dL_law_758 : decode cL_law 758 = .ok (.aload_n 1, 1) := by decide +kernel
theorem dL_law_759 : decode cL_law 759 = .ok (.aload_n 0, 1) := by decide +kernel
theorem dL_law_760 : decode cL_law 760 = .ok (.iload_n 3, 1) := by decide +kernel
theorem dL_law_761 : decode cL_law 761 = .ok (.iconst 1, 1) := by decide +kernel
theorem dL_law_762 : decode cL_law 762 = .ok (.iadd, 1) := by decide +kernel
theorem dL_law_763 : decode cL_law 763 = .ok (.iaload, 1) := by decide +kernel
theorem dL_law_764 : decode cL_law 764 = .ok (.invokevirtual 107, 3) := by decide +kernel
theorem dL_law_767 : decode cL_law 767 = .ok (.aload_n 2, 1) := by decide +kernel
theorem dL_law_768 : decode cL_law 768 = .ok (.aload_n 0, 1) := by decide +kernel
theorem dL_law_769 : decode cL_law 769 = .ok (.iload_n 3, 1) := by decide +kernel
theorem dL_law_770 : decode cL_law 770 = .ok (.iconst 1, 1) := by decide +kernel
theorem dL_law_771 : decode cL_law 771 = .ok (.iadd, 1) := by decide +kernel
theorem dL_law_772 : decode cL_law 772 = .ok (.iaload, 1) := by decide +kernel
theorem dL_law_773 : decode cL_law 773 = .ok (.invokevirtual 110, 3) := by decide +kernel
theorem dL_law_776 : decode cL_law 776 = .ok (.if_icmp .eq 5, 3) := by decide +kernel
theorem dL_law_779 : decode cL_law 779 = .ok (.iconst 0, 1) := by decide +kernel
theorem dL_law_780 : decode cL_law 780 = .ok (.ireturn, 1) := by decide +kernel
theorem dL_law_781 : decode cL_law 781 = .ok (.iinc 3 6, 3) := by decide +kernel
theorem dL_law_784 : decode cL_law 784 = .ok (.goto (-766), 3) := by decide +kernel
theorem dL_law_787 : decode cL_law 787 = .ok (.iconst 1, 1) := by decide +kernel
theorem dL_law_788 : decode cL_law 788 = .ok (.ireturn, 1) := by decide +kernel
end
section
/-! THE CORE: a flat memory of named objects (name k stands at address s0 + k), one judgement G over it, one row an instruction. -/
abbrev II := Nat → Nat → Int32
abbrev PP := Nat → Nat → Option Nat
abbrev LL := Nat → Nat ⊕ (Nat × Nat)
abbrev AV := Int32 ⊕ Option Nat
def up2 (I : II) (a k : Nat) (v : Int32) : II := fun x => if x = a then (fun y => if y = k then v else I a y) else I x
def upP (P : PP) (a k : Nat) (v : Option Nat) : PP := fun x => if x = a then (fun y => if y = k then v else P a y) else P x
def cp2 (I : II) (a b n : Nat) : II := fun x => if x = b then (fun y => if y < n then I a y else I b y) else I x
def fl2 (I : II) (a n : Nat) (v : Int32) : II := fun x => if x = a then (fun y => if y < n then v else I a y) else I x
theorem up2_s {I : II} {a k : Nat} {v : Int32} : up2 I a k v a = upd (I a) k v := by
  funext y
  simp [up2, upd]
theorem up2_n {I : II} {a k b : Nat} {v : Int32} (h : b ≠ a) : up2 I a k v b = I b := by simp [up2, h]
def rv (s0 : Nat) (o : Option Nat) : Value := va_rf (o.map fun k => s0 + k)
def cv (s0 : Nat) (a : AV) : Value := match a with
  | .inl x => .int x
  | .inr o => rv s0 o
theorem cv_cat (s0 : Nat) (a : AV) : (cv s0 a).category = 1 := by
  cases a with
  | inl x => rfl
  | inr o => cases o <;> rfl
theorem cv_sum (s0 : Nat) (st : List AV) : ((st.map (cv s0)).map fun v => v.category).sum = st.length := by
  induction st with
  | nil => rfl
  | cons a l ih => simp only [List.map_cons, List.sum_cons, List.length_cons, cv_cat, ih]; omega
def RF (ci : Nat) : String := match ci with
  | 0 => RX0 | 1 => RX1 | 2 => RX2 | 3 => RX3 | 4 => RX4 | 5 => RX5 | 6 => RX6 | 7 => RX7 | 8 => RX8 | _ => RX9
def TF (ci : Nat) : u_T := match ci with
  | 0 => TX0 | 1 => TX1 | 2 => TX2 | 3 => TX3 | 4 => TX4 | 5 => TX5 | 6 => TX6 | 7 => TX7 | 8 => TX8 | _ => TX9
def tyF (ci : Nat) : Nat → FieldType := match ci with
  | 0 => tyX0 | 1 => tyX1 | 2 => tyX2 | 3 => tyX3 | 4 => tyX4 | 5 => tyX5 | 6 => tyX6 | 7 => tyX7 | 8 => tyX8 | _ => tyX9
def nF (ci : Nat) : Nat := match ci with
  | 0 => 7 | 1 => 2 | 2 => 6 | 3 => 2 | 4 => 8 | 5 => 4 | 6 => 9 | 7 => 2 | 8 => 5 | _ => 18
def tg : List Cond := lw_tbl.filter goodWord
theorem tg_in {w : Cond} (k : Nat) (h : lw_tbl[k]? = some w) (hg : goodWord w = true) : w ∈ tg := List.mem_filter.mpr ⟨List.mem_of_getElem? h, hg⟩
theorem tg_good {w : Cond} (h : w ∈ tg) : (w.onTables && w.keeps) = true ∨ ∃ ty, w = .arrayClass ty := good_of_word (List.mem_filter.mp h).2
set_option maxRecDepth 100000 in
theorem ws_all : ([0, 1, 2, 3, 4, 5, 6, 7, 8, 9] : List Nat).all (fun ci => (u_ws (RF ci) (TF ci) (nF ci)).all (fun w => decide (w ∈ lw_tbl) && goodWord w)) = true := by decide +kernel
theorem ci_mem {ci : Nat} (h : ci < 10) : ci ∈ ([0, 1, 2, 3, 4, 5, 6, 7, 8, 9] : List Nat) := by
  simp only [List.mem_cons, List.not_mem_nil, or_false]
  omega
theorem ws_in {ci : Nat} (h : ci < 10) : ∀ w ∈ u_ws (RF ci) (TF ci) (nF ci), w ∈ tg := by
  intro w hw
  have h1 := List.all_eq_true.mp ws_all ci (ci_mem h)
  have h2 := List.all_eq_true.mp h1 w hw
  simp only [Bool.and_eq_true, decide_eq_true_eq] at h2
  exact List.mem_filter.mpr h2
theorem cl_at {ci : Nat} (h : ci < 10) : vwCl[ci]? = some (RF ci, TF ci, nF ci) := by
  match ci, h with
  | 0, _ => rfl
  | 1, _ => rfl
  | 2, _ => rfl
  | 3, _ => rfl
  | 4, _ => rfl
  | 5, _ => rfl
  | 6, _ => rfl
  | 7, _ => rfl
  | 8, _ => rfl
  | 9, _ => rfl
  | n + 10, h => exact absurd h (by omega)
theorem ty_ok {ci : Nat} (h : ci < 10) : ∀ k, k < nF ci → parseFieldDescriptor (TF ci k).2.2.1 = some (tyF ci k) := by
  match ci, h with
  | 0, _ => exact tyX0_ok
  | 1, _ => exact tyX1_ok
  | 2, _ => exact tyX2_ok
  | 3, _ => exact tyX3_ok
  | 4, _ => exact tyX4_ok
  | 5, _ => exact tyX5_ok
  | 6, _ => exact tyX6_ok
  | 7, _ => exact tyX7_ok
  | 8, _ => exact tyX8_ok
  | 9, _ => exact tyX9_ok
  | n + 10, h => exact absurd h (by omega)
theorem nm_ok {ci : Nat} (h : ci < 10) : ∀ a, a < nF ci → ∀ b, b < nF ci → a ≠ b → (TF ci a).2.1 ≠ (TF ci b).2.1 := by
  match ci, h with
  | 0, _ => exact nmX0
  | 1, _ => exact nmX1
  | 2, _ => exact nmX2
  | 3, _ => exact nmX3
  | 4, _ => exact nmX4
  | 5, _ => exact nmX5
  | 6, _ => exact nmX6
  | 7, _ => exact nmX7
  | 8, _ => exact nmX8
  | 9, _ => exact nmX9
  | n + 10, h => exact absurd h (by omega)
def isR (ci k : Nat) : Bool := match tyF ci k with
  | .object _ => true
  | .array _ => true
  | _ => false
def fV (s0 : Nat) (I : II) (P : PP) (ci a k : Nat) : Value := if isR ci k = true then rv s0 (P a k) else .int (I a k)
def cE (s0 : Nat) (DA : Nat → ClassId) (Ly : LL) (I : II) (P : PP) (k : Nat) : va_E := match Ly k with
  | .inl ci => .inr (ci, (List.range (nF ci)).map (fV s0 I P ci k))
  | .inr q => .inl (DA q.1, (q.2, if q.1 < 3 then .inl (I k) else .inr (.inr (.inr (.inr (fun j => (P k j).map fun x => s0 + x))))))
def wd (s0 : Nat) (DA : Nat → ClassId) (Ly : LL) (I : II) (P : PP) (n : Nat) : va_W := (List.range n).map fun k => (s0 + k, cE s0 DA Ly I P k)
def tysA (DA : Nat → ClassId) : List (ClassId × FieldType) := [(DA 0, .int), (DA 1, .char), (DA 2, .boolean), (DA 3, .object RX6), (DA 4, .object RX4), (DA 5, .object RX3)]
theorem wd_get {s0 : Nat} {DA : Nat → ClassId} {Ly : LL} {I : II} {P : PP} {n k : Nat} (h : k < n) : (wd s0 DA Ly I P n)[k]? = some (s0 + k, cE s0 DA Ly I P k) := by
  simp [wd, h]
theorem wd_inv {s0 : Nat} {DA : Nat → ClassId} {Ly : LL} {I : II} {P : PP} {n k : Nat} {q : Nat × va_E} (h : (wd s0 DA Ly I P n)[k]? = some q) : k < n ∧ q = (s0 + k, cE s0 DA Ly I P k) := by
  have hl := (List.getElem?_eq_some_iff.mp h).1
  have hk : k < n := by simpa [wd] using hl
  rw [wd_get hk] at h
  exact ⟨hk, (Option.some.inj h).symm⟩
theorem wd_D {s0 : Nat} {DA : Nat → ClassId} {Ly : LL} {I : II} {P : PP} {n : Nat} : va_D (fun q => s0 ≤ q) (wd s0 DA Ly I P n) := by
  refine ⟨fun i j p q hi hj he => ?_, fun k q hk => ?_⟩
  · obtain ⟨-, rfl⟩ := wd_inv hi
    obtain ⟨-, rfl⟩ := wd_inv hj
    have h1 : s0 + i = s0 + j := he
    omega
  · obtain ⟨-, rfl⟩ := wd_inv hk
    show s0 ≤ s0 + k
    omega
theorem cE_congr {s0 : Nat} {DA : Nat → ClassId} {Ly : LL} {I I' : II} {P P' : PP} {k : Nat} (h1 : I' k = I k) (h2 : P' k = P k) : cE s0 DA Ly I' P' k = cE s0 DA Ly I P k := by
  unfold cE fV
  rw [h1, h2]
theorem wd_set {s0 : Nat} {DA : Nat → ClassId} {Ly : LL} {I I' : II} {P P' : PP} {n k : Nat} {e : va_E} (h : k < n) (he : e = cE s0 DA Ly I' P' k) (hI : ∀ j, j ≠ k → I' j = I j) (hP : ∀ j, j ≠ k → P' j = P j) : (wd s0 DA Ly I P n).set k (s0 + k, e) = wd s0 DA Ly I' P' n := by
  subst he
  apply List.ext_getElem?
  intro j
  by_cases hj : j < n
  · rw [wd_get hj]
    by_cases hjk : j = k
    · subst hjk
      rw [List.getElem?_set_self (by simpa [wd] using hj)]
    · rw [List.getElem?_set_ne (fun q => hjk q.symm), wd_get hj, cE_congr (hI j hjk) (hP j hjk)]
  · rw [List.getElem?_eq_none (by simpa [wd] using hj), List.getElem?_eq_none (by simpa [wd] using hj)]
theorem cE_o {s0 : Nat} {DA : Nat → ClassId} {Ly : LL} {I : II} {P : PP} {k ci : Nat} (h : Ly k = .inl ci) : cE s0 DA Ly I P k = .inr (ci, (List.range (nF ci)).map (fV s0 I P ci k)) := by
  unfold cE
  rw [h]
theorem cE_i {s0 : Nat} {DA : Nat → ClassId} {Ly : LL} {I : II} {P : PP} {k t len : Nat} (h : Ly k = .inr (t, len)) (ht : t < 3) : cE s0 DA Ly I P k = .inl (DA t, (len, .inl (I k))) := by
  unfold cE
  rw [h]
  simp [ht]
theorem cE_q {s0 : Nat} {DA : Nat → ClassId} {Ly : LL} {I : II} {P : PP} {k t len : Nat} (h : Ly k = .inr (t, len)) (ht : ¬ t < 3) : cE s0 DA Ly I P k = .inl (DA t, (len, .inr (.inr (.inr (.inr (fun j => (P k j).map fun x => s0 + x)))))) := by
  unfold cE
  rw [h]
  simp [ht]
/-- the nest mates' words and those of arrays over own kinds of object, which go from state to state beside the tables -/
def Nst (U : State) : Prop := (va_Nw (.methodLinkNest RX8 9 yX7_init RX8) U ∧ va_Nw (.methodLinkNest RX4 33 yX5_init RX8) U ∧ va_Nw (.methodLinkNest RX4 44 yX6_init RX8) U ∧ va_Nw (.methodLinkNest RX7 20 yX0_init RX8) U ∧ va_Nw (.methodLinkNest RX8 25 yX2_init RX8) U ∧ va_Nw (.methodLinkNest RX8 36 yX3_init RX8) U ∧ va_Nw (.methodLinkNest RX2 48 yX8_isBetween RX8) U) ∧ va_AO RX6 U ∧ va_AO RX4 U ∧ va_AO RX3 U
theorem Nst.warm {s U : State} (hW : s.WarmedH U.vm) (h : Nst s) : Nst U := by
  obtain ⟨⟨h1, h2, h3, h4, h5, h6, h7⟩, a1, a2, a3⟩ := h
  exact ⟨⟨h1.warmM hW, h2.warmM hW, h3.warmM hW, h4.warmM hW, h5.warmM hW, h6.warmM hW, h7.warmM hW⟩, a1.moved hW.alike, a2.moved hW.alike, a3.moved hW.alike⟩
theorem Nst.same {u U : State} (hv : u.vm = U.vm) (h : Nst u) : Nst U := by
  obtain ⟨⟨h1, h2, h3, h4, h5, h6, h7⟩, a1, a2, a3⟩ := h
  have hA : u.vm.Alike U.vm := by rw [hv]; exact Vm.Alike.refl U.vm
  exact ⟨⟨h1.same rfl hv, h2.same rfl hv, h3.same rfl hv, h4.same rfl hv, h5.same rfl hv, h6.same rfl hv, h7.same rfl hv⟩, a1.moved hA, a2.moved hA, a3.moved hA⟩
/-- the memory stands in a state -/
def Rl (s0 : Nat) (D : va_G) (DA : Nat → ClassId) (n : Nat) (Ly : LL) (I : II) (P : PP) (U : State) : Prop := U.heap.size = s0 + n ∧ va_P D vwCl (wd s0 DA Ly I P n) U.heap ∧ va_K D vwCl (tysA DA) U ∧ Nst U
/-- a method: its name, bytes, locals, kind of answer, depth -/
abbrev MD := MethodName × ByteArray × Nat × Option FieldType × Nat
abbrev rmD (d mc ms : Nat) : Room := { frames := d, cells := mc, slots := ms, locals := 40 * d }
def wsM (md : MD) : List Cond := .code md.1 md.2.1 md.2.2.1 md.2.2.2.1 :: tg
abbrev PQ := Option AV → Nat → LL → II → PP → Prop
def Qr (s0 : Nat) (D : va_G) (DA : Nat → ClassId) (Po : PQ) : Array Value → State → Outcome → State → Prop := fun _ st o t =>
  (∃ (r : Option AV) (n : Nat) (Ly : LL) (I : II) (P : PP), o = .returned (r.map (cv s0)) ∧ Po r n Ly I P ∧ Rl s0 D DA n Ly I P t) ∧ va_F (fun q => s0 ≤ q) st t
/-- a contract -/
def Ct (l : Launch) (s0 : Nat) (D : va_G) (DA : Nat → ClassId) (md : MD) (av : List AV) (mc ms n : Nat) (Ly : LL) (I : II) (P : PP) (Po : PQ) : Prop :=
  Met l md.1 (wsM md) (rmD md.2.2.2.2 mc ms) (va_Pc (av.map (cv s0)) (Rl s0 D DA n Ly I P)) (Qr s0 D DA Po) mc ms (fun q => s0 ≤ q)
abbrev Cx := Program × Launch × Env × Room × State × MethodId × Array Value × List Frame × Method × Code × Nat × va_G × (Nat → ClassId) × (State → Prop)
def Fx (X : Cx) (own : String) (cc : ByteArray) (nL d mc ms : Nat) : Prop := match X with
  | (p, _, _, R, s, m, args, _, meth, c, s0, D, DA, _) =>
    p.tables.exec = Jvm.exec ∧ c.code = cc ∧ c.maxLocals = nL ∧ s.vm.findClass own = some m.cls ∧ (∀ w ∈ tg, w.before args s = true) ∧ va_K D vwCl (tysA DA) s ∧ Nst s ∧ s0 ≤ s.heap.size ∧ meth.locks = false ∧ d ≤ R.frames ∧ 40 * d ≤ R.locals ∧ mc ≤ R.cells ∧ ms ≤ R.slots
/-- what a method's own end is -/
def Fr (X : Cx) (ret : Option FieldType) (Po : PQ) (mc ms : Nat) : Prop := match X with
  | (_, _, _, _, s, _, args, below, meth, _, s0, D, DA, Q) => meth.sig.returnType = ret ∧ Q = MQ below (Qr s0 D DA Po) args s mc ms (fun q => s0 ≤ q)
def Fi (X : Cx) : Prop := match X with
  | (_, _, _, _, _, _, _, _, meth, _) => meth.name = "<init>"
def LR (s0 : Nat) (nL : Nat) (lv : List (Option AV)) (ls : Array Slot) : Prop := ls.size = nL ∧ lv_wf ls ∧ ∀ (i : Nat) (v : AV), lv[i]? = some (some v) → ls[i]? = some (.val (cv s0 v))
def G (X : Cx) (nL kc ks n : Nat) (Ly : LL) (pc : Nat) (lv : List (Option AV)) (st : List AV) (I : II) (P : PP) : Prop := match X with
  | (p, l, e, R, s, m, args, below, meth, c, s0, D, DA, Q) =>
    ∀ (H : Heap) (locs : List Loc) (ls : Array Slot), s.heap.size + kc = s0 + n → va_P D vwCl (wd s0 DA Ly I P n) H → va_S (fun q => s0 ≤ q) s.heap H locs → LR s0 nL lv ls → W p l e R s m args below meth c H locs kc ks Q (F0 m pc ls (st.map (cv s0)))
def prs (s0 : Nat) (lv : List (Option AV)) : List (Nat × Value) := (List.range lv.length).filterMap fun i => (lv[i]?.join).map fun v => (i, cv s0 v)
theorem prs_mem {s0 : Nat} {lv : List (Option AV)} {q : Nat × Value} : q ∈ prs s0 lv ↔ ∃ v, lv[q.1]? = some (some v) ∧ q.2 = cv s0 v := by
  unfold prs
  rw [List.mem_filterMap]
  constructor
  · rintro ⟨i, -, h⟩
    cases hi : lv[i]? with
    | none => rw [hi] at h; cases h
    | some o =>
      rw [hi] at h
      cases o with
      | none => cases h
      | some v =>
        cases h
        exact ⟨v, hi, rfl⟩
  · rintro ⟨v, h1, h2⟩
    have hl := (List.getElem?_eq_some_iff.mp h1).1
    refine ⟨q.1, List.mem_range.mpr hl, ?_⟩
    rw [h1]
    show some (q.1, cv s0 v) = some q
    rw [← h2]
theorem LR.has {s0 nL : Nat} {lv : List (Option AV)} {ls : Array Slot} (h : LR s0 nL lv ls) : lv_has ls nL (prs s0 lv) := by
  refine ⟨h.1, h.2.1, fun q hq => ?_⟩
  obtain ⟨v, h1, h2⟩ := prs_mem.mp hq
  rw [h2]
  exact h.2.2 _ _ h1
theorem LR.of {s0 nL i : Nat} {lv : List (Option AV)} {ls ls' : Array Slot} {v : AV} (_h : LR s0 nL lv ls) (h' : lv_has ls' nL ((i, cv s0 v) :: (prs s0 lv).filter (fun q => !(q.1 == i) && !(q.1 + 1 == i && q.2.category == 2)))) : LR s0 nL (lv.set i (some v)) ls' := by
  refine ⟨h'.1, h'.2.1, fun j w hj => ?_⟩
  by_cases e : j = i
  · subst e
    have hl := (List.getElem?_eq_some_iff.mp hj).1
    rw [List.getElem?_set_self (by simpa using hl)] at hj
    have e2 : v = w := Option.some.inj (Option.some.inj hj)
    subst e2
    exact h'.2.2 (j, cv s0 v) List.mem_cons_self
  · rw [List.getElem?_set_ne (fun q => e q.symm)] at hj
    refine h'.2.2 (j, cv s0 w) (List.mem_cons_of_mem _ (List.mem_filter.mpr ⟨prs_mem.mpr ⟨w, hj, rfl⟩, ?_⟩))
    have h1 : (j == i) = false := by simpa using e
    have h2 : ((cv s0 w).category == 2) = false := by rw [cv_cat]; rfl
    simp [h1, h2]
/-- fewer known locals -/
def leL : List (Option AV) → List (Option AV) → Prop
  | [], _ => True
  | none :: a, [] => leL a []
  | none :: a, _ :: b => leL a b
  | some v :: a, x :: b => x = some v ∧ leL a b
  | some _ :: _, [] => False
theorem leL_get : ∀ (a b : List (Option AV)), leL a b → ∀ (i : Nat) (v : AV), a[i]? = some (some v) → b[i]? = some (some v)
  | [], _, _, i, v, h => by simp at h
  | none :: a, [], hl, i, v, h => by
    cases i with
    | zero => simp at h
    | succ i => simpa using leL_get a [] hl i v (by simpa using h)
  | none :: a, x :: b, hl, i, v, h => by
    cases i with
    | zero => simp at h
    | succ i => simpa using leL_get a b hl i v (by simpa using h)
  | some w :: a, x :: b, hl, i, v, h => by
    obtain ⟨h1, h2⟩ := hl
    cases i with
    | zero =>
      subst h1
      simpa using h
    | succ i => simpa using leL_get a b h2 i v (by simpa using h)
  | some w :: a, [], hl, i, v, h => by exact hl.elim
theorem LR.weak {s0 nL : Nat} {a b : List (Option AV)} {ls : Array Slot} (h : LR s0 nL b ls) (hl : leL a b) : LR s0 nL a ls := ⟨h.1, h.2.1, fun i v hi => h.2.2 i v (leL_get a b hl i v hi)⟩
theorem G.weak {X : Cx} {nL kc ks n pc : Nat} {Ly : LL} {a b : List (Option AV)} {st : List AV} {I : II} {P : PP} (hl : leL a b) (h : G X nL kc ks n Ly pc a st I P) : G X nL kc ks n Ly pc b st I P := by
  obtain ⟨p, l, e, R, s, m, args, below, meth, c, s0, D, DA, Q⟩ := X
  intro H locs ls hz hP hS hL
  exact h H locs ls hz hP hS (hL.weak hl)
theorem sz_of {p : Program} {l : Launch} {e : Env} {R : Room} {s : State} {m : MethodId} {args : Array Value} {below : List Frame} {meth : Method} {c : Code} {T : State} {H : Heap} {locs : List Loc} {kc ks s0 n : Nat} {D : va_G} {DA : Nat → ClassId} {Ly : LL} {I : II} {P : PP} (X : Stand p l e R s m args below meth c T locs kc ks) (hT : T.heap = H) (hz : s.heap.size + kc = s0 + n) (hP : va_P D vwCl (wd s0 DA Ly I P n) H) (hS : va_S (fun q => s0 ≤ q) s.heap H locs) (hs0 : s0 ≤ s.heap.size) : H.size = s0 + n := by
  have h1 : T.heap.size ≤ s.heap.size + kc := X.same.2.2.1
  rw [hT] at h1
  have h2 := hS.1
  rcases Nat.eq_zero_or_pos n with h0 | h0
  · subst h0
    omega
  · have h3 := (hP (n - 1) _ (wd_get (by omega))).lt
    have h4 : s0 + (n - 1) < H.size := h3
    omega
/-- a field's place, by the tables -/
def FL (own : String) (idx ci k : Nat) : Prop := ci < 10 ∧ k < nF ci ∧ Cond.fieldLink own idx (TF ci k).1 (TF ci k).2.1 (TF ci k).2.2.1 ∈ tg
theorem fs_setI {s0 : Nat} {I : II} {P : PP} {ci a k : Nat} {x : Int32} (hk : k < nF ci) (hr : isR ci k = false) : ((List.range (nF ci)).map (fV s0 I P ci a)).set k (.int x) = (List.range (nF ci)).map (fV s0 (up2 I a k x) P ci a) := by
  apply List.ext_getElem?
  intro j
  by_cases hj : j < nF ci
  · by_cases hjk : j = k
    · subst hjk
      rw [List.getElem?_set_self (by simpa using hj)]
      simp [hj, fV, hr, up2]
    · rw [List.getElem?_set_ne (fun q => hjk q.symm)]
      simp [hj, fV, up2, hjk]
  · rw [List.getElem?_eq_none (by simpa using hj), List.getElem?_eq_none (by simpa using hj)]
theorem fs_setR {s0 : Nat} {I : II} {P : PP} {ci a k : Nat} {o : Option Nat} (hk : k < nF ci) (hr : isR ci k = true) : ((List.range (nF ci)).map (fV s0 I P ci a)).set k (rv s0 o) = (List.range (nF ci)).map (fV s0 I (upP P a k o) ci a) := by
  apply List.ext_getElem?
  intro j
  by_cases hj : j < nF ci
  · by_cases hjk : j = k
    · subst hjk
      rw [List.getElem?_set_self (by simpa using hj)]
      simp [hj, fV, hr, upP]
    · rw [List.getElem?_set_ne (fun q => hjk q.symm)]
      simp [hj, fV, upP, hjk]
  · rw [List.getElem?_eq_none (by simpa using hj), List.getElem?_eq_none (by simpa using hj)]
end
section
theorem upP_n {P : PP} {a k b : Nat} {v : Option Nat} (h : b ≠ a) : upP P a k v b = P b := by simp [upP, h]
theorem rv_ok {s0 ci k : Nat} {o : Option Nat} (h : isR ci k = true) : narrow (tyF ci k) (rv s0 o) = rv s0 o ∧ fits (tyF ci k) (rv s0 o) = true := by
  unfold isR at h
  cases ht : tyF ci k <;> rw [ht] at h <;> first | (exact absurd h (by decide)) | (cases o <;> exact ⟨rfl, rfl⟩)
def LC (own : String) (idx : Nat) : Prop := Cond.methodLink own idx arraycopyName ∈ tg ∧ Cond.native arraycopyName ∈ tg ∧ Cond.static arraycopyName ∈ tg ∧ Cond.initialized "java/lang/System" ∈ tg
def LM (own : String) (idx : Nat) (y : MethodName) (code : ByteArray) : Prop := Cond.methodLink own idx y ∈ tg ∧ Cond.static y ∈ tg ∧ Cond.initialized "java/lang/Math" ∈ tg ∧ Cond.code y code 2 (some .int) ∈ tg
section ROWS
variable {X : Cx} {own : String} {cc : ByteArray} {nL d mc ms kc ks n pc : Nat} {Ly : LL} {lv : List (Option AV)} {st : List AV} {I : II} {P : PP}
theorem s_iconst (F : Fx X own cc nL d mc ms) {k : Int} {v : Int32} (hd : decode cc pc = .ok (.iconst k, 1)) (hv : Int32.ofInt k = v) (kk : G X nL kc ks n Ly (pc + 1) lv (.inl v :: st) I P) : G X nL kc ks n Ly pc lv st I P := by
  obtain ⟨p, l, e, R, s, m, args, below, meth, c, s0, D, DA, Q⟩ := X
  obtain ⟨hx, hb, hml, hown, hts, hK, hN, hs0, hlk, hR1, hR2, hR3, hR4⟩ := F
  intro H locs ls hz hP hS hL
  exact lv_iconst hx hb hd hv (kk H locs ls hz hP hS hL)
theorem s_bipush (F : Fx X own cc nL d mc ms) {k : Int} {v : Int32} (hd : decode cc pc = .ok (.bipush k, 2)) (hv : (Int8.ofInt k).toInt32 = v) (kk : G X nL kc ks n Ly (pc + 2) lv (.inl v :: st) I P) : G X nL kc ks n Ly pc lv st I P := by
  obtain ⟨p, l, e, R, s, m, args, below, meth, c, s0, D, DA, Q⟩ := X
  obtain ⟨hx, hb, hml, hown, hts, hK, hN, hs0, hlk, hR1, hR2, hR3, hR4⟩ := F
  intro H locs ls hz hP hS hL
  exact lv_bipush hx hb hd hv (kk H locs ls hz hP hS hL)
theorem s_sipush (F : Fx X own cc nL d mc ms) {k : Int} {v : Int32} (hd : decode cc pc = .ok (.sipush k, 3)) (hv : (Int16.ofInt k).toInt32 = v) (kk : G X nL kc ks n Ly (pc + 3) lv (.inl v :: st) I P) : G X nL kc ks n Ly pc lv st I P := by
  obtain ⟨p, l, e, R, s, m, args, below, meth, c, s0, D, DA, Q⟩ := X
  obtain ⟨hx, hb, hml, hown, hts, hK, hN, hs0, hlk, hR1, hR2, hR3, hR4⟩ := F
  intro H locs ls hz hP hS hL
  exact lv_sipush hx hb hd hv (kk H locs ls hz hP hS hL)
theorem s_null (F : Fx X own cc nL d mc ms) (hd : decode cc pc = .ok (.aconst_null, 1)) (kk : G X nL kc ks n Ly (pc + 1) lv (.inr none :: st) I P) : G X nL kc ks n Ly pc lv st I P := by
  obtain ⟨p, l, e, R, s, m, args, below, meth, c, s0, D, DA, Q⟩ := X
  obtain ⟨hx, hb, hml, hown, hts, hK, hN, hs0, hlk, hR1, hR2, hR3, hR4⟩ := F
  intro H locs ls hz hP hS hL
  exact lv_null hx hb hd (kk H locs ls hz hP hS hL)
theorem s_iload_n (F : Fx X own cc nL d mc ms) {k : Fin 4} {x : Int32} (hd : decode cc pc = .ok (.iload_n k, 1)) (hl : lv[(k : Nat)]? = some (some (.inl x))) (kk : G X nL kc ks n Ly (pc + 1) lv (.inl x :: st) I P) : G X nL kc ks n Ly pc lv st I P := by
  obtain ⟨p, l, e, R, s, m, args, below, meth, c, s0, D, DA, Q⟩ := X
  obtain ⟨hx, hb, hml, hown, hts, hK, hN, hs0, hlk, hR1, hR2, hR3, hR4⟩ := F
  intro H locs ls hz hP hS hL
  exact lv_iload_n hx hb hd rfl (hL.2.2 _ _ hl) (kk H locs ls hz hP hS hL)
theorem s_iload (F : Fx X own cc nL d mc ms) {k : Nat} {x : Int32} (hd : decode cc pc = .ok (.iload k, 2)) (hl : lv[k]? = some (some (.inl x))) (kk : G X nL kc ks n Ly (pc + 2) lv (.inl x :: st) I P) : G X nL kc ks n Ly pc lv st I P := by
  obtain ⟨p, l, e, R, s, m, args, below, meth, c, s0, D, DA, Q⟩ := X
  obtain ⟨hx, hb, hml, hown, hts, hK, hN, hs0, hlk, hR1, hR2, hR3, hR4⟩ := F
  intro H locs ls hz hP hS hL
  exact lv_iload hx hb hd (hL.2.2 _ _ hl) (kk H locs ls hz hP hS hL)
theorem s_aload_n (F : Fx X own cc nL d mc ms) {k : Fin 4} {o : Option Nat} (hd : decode cc pc = .ok (.aload_n k, 1)) (hl : lv[(k : Nat)]? = some (some (.inr o))) (kk : G X nL kc ks n Ly (pc + 1) lv (.inr o :: st) I P) : G X nL kc ks n Ly pc lv st I P := by
  obtain ⟨p, l, e, R, s, m, args, below, meth, c, s0, D, DA, Q⟩ := X
  obtain ⟨hx, hb, hml, hown, hts, hK, hN, hs0, hlk, hR1, hR2, hR3, hR4⟩ := F
  intro H locs ls hz hP hS hL
  cases o with
  | none => exact lv_aload_nN hx hb hd rfl (hL.2.2 _ _ hl) (kk H locs ls hz hP hS hL)
  | some b => exact lv_aload_n hx hb hd rfl (hL.2.2 _ _ hl) (kk H locs ls hz hP hS hL)
theorem s_aload (F : Fx X own cc nL d mc ms) {k : Nat} {o : Option Nat} (hd : decode cc pc = .ok (.aload k, 2)) (hl : lv[k]? = some (some (.inr o))) (kk : G X nL kc ks n Ly (pc + 2) lv (.inr o :: st) I P) : G X nL kc ks n Ly pc lv st I P := by
  obtain ⟨p, l, e, R, s, m, args, below, meth, c, s0, D, DA, Q⟩ := X
  obtain ⟨hx, hb, hml, hown, hts, hK, hN, hs0, hlk, hR1, hR2, hR3, hR4⟩ := F
  intro H locs ls hz hP hS hL
  cases o with
  | none => exact lv_aloadN hx hb hd (hL.2.2 _ _ hl) (kk H locs ls hz hP hS hL)
  | some b => exact lv_aload hx hb hd (hL.2.2 _ _ hl) (kk H locs ls hz hP hS hL)
theorem s_istore_n (F : Fx X own cc nL d mc ms) {k : Fin 4} {x : Int32} (hd : decode cc pc = .ok (.istore_n k, 1)) (hk : (k : Nat) < nL) (kk : G X nL kc ks n Ly (pc + 1) (lv.set (k : Nat) (some (.inl x))) st I P) : G X nL kc ks n Ly pc lv (.inl x :: st) I P := by
  obtain ⟨p, l, e, R, s, m, args, below, meth, c, s0, D, DA, Q⟩ := X
  obtain ⟨hx, hb, hml, hown, hts, hK, hN, hs0, hlk, hR1, hR2, hR3, hR4⟩ := F
  intro H locs ls hz hP hS hL
  exact lv_istore_n hx hb hd rfl hL.has hk rfl (fun ls' h' => kk H locs ls' hz hP hS (LR.of (v := .inl x) hL h'))
theorem s_istore (F : Fx X own cc nL d mc ms) {k : Nat} {x : Int32} (hd : decode cc pc = .ok (.istore k, 2)) (hk : k < nL) (kk : G X nL kc ks n Ly (pc + 2) (lv.set k (some (.inl x))) st I P) : G X nL kc ks n Ly pc lv (.inl x :: st) I P := by
  obtain ⟨p, l, e, R, s, m, args, below, meth, c, s0, D, DA, Q⟩ := X
  obtain ⟨hx, hb, hml, hown, hts, hK, hN, hs0, hlk, hR1, hR2, hR3, hR4⟩ := F
  intro H locs ls hz hP hS hL
  exact lv_istore hx hb hd hL.has hk rfl (fun ls' h' => kk H locs ls' hz hP hS (LR.of (v := .inl x) hL h'))
theorem s_astore_n (F : Fx X own cc nL d mc ms) {k : Fin 4} {o : Option Nat} (hd : decode cc pc = .ok (.astore_n k, 1)) (hk : (k : Nat) < nL) (kk : G X nL kc ks n Ly (pc + 1) (lv.set (k : Nat) (some (.inr o))) st I P) : G X nL kc ks n Ly pc lv (.inr o :: st) I P := by
  obtain ⟨p, l, e, R, s, m, args, below, meth, c, s0, D, DA, Q⟩ := X
  obtain ⟨hx, hb, hml, hown, hts, hK, hN, hs0, hlk, hR1, hR2, hR3, hR4⟩ := F
  intro H locs ls hz hP hS hL
  cases o with
  | none => exact lv_astore_nN hx hb hd rfl hL.has hk rfl (fun ls' h' => kk H locs ls' hz hP hS (LR.of (v := .inr none) hL h'))
  | some b => exact lv_astore_n hx hb hd rfl hL.has hk rfl (fun ls' h' => kk H locs ls' hz hP hS (LR.of (v := .inr (some b)) hL h'))
theorem s_astore (F : Fx X own cc nL d mc ms) {k : Nat} {o : Option Nat} (hd : decode cc pc = .ok (.astore k, 2)) (hk : k < nL) (kk : G X nL kc ks n Ly (pc + 2) (lv.set k (some (.inr o))) st I P) : G X nL kc ks n Ly pc lv (.inr o :: st) I P := by
  obtain ⟨p, l, e, R, s, m, args, below, meth, c, s0, D, DA, Q⟩ := X
  obtain ⟨hx, hb, hml, hown, hts, hK, hN, hs0, hlk, hR1, hR2, hR3, hR4⟩ := F
  intro H locs ls hz hP hS hL
  cases o with
  | none => exact lv_astoreN hx hb hd hL.has hk rfl (fun ls' h' => kk H locs ls' hz hP hS (LR.of (v := .inr none) hL h'))
  | some b => exact lv_astore hx hb hd hL.has hk rfl (fun ls' h' => kk H locs ls' hz hP hS (LR.of (v := .inr (some b)) hL h'))
theorem s_iinc (F : Fx X own cc nL d mc ms) {k : Nat} {j : Int} {x v : Int32} (hd : decode cc pc = .ok (.iinc k j, 3)) (hl : lv[k]? = some (some (.inl x))) (hk : k < nL) (hv : x + Int32.ofInt j = v) (kk : G X nL kc ks n Ly (pc + 3) (lv.set k (some (.inl v))) st I P) : G X nL kc ks n Ly pc lv st I P := by
  obtain ⟨p, l, e, R, s, m, args, below, meth, c, s0, D, DA, Q⟩ := X
  obtain ⟨hx, hb, hml, hown, hts, hK, hN, hs0, hlk, hR1, hR2, hR3, hR4⟩ := F
  intro H locs ls hz hP hS hL
  obtain ⟨i, hi⟩ := List.getElem?_of_mem (prs_mem.mpr ⟨_, hl, rfl⟩ : (k, cv s0 (.inl x)) ∈ prs s0 lv)
  exact lv_iinc hx hb hd hL.has hi hv hk rfl (fun ls' h' => kk H locs ls' hz hP hS (LR.of (v := .inl v) hL h'))
theorem s_iadd (F : Fx X own cc nL d mc ms) {x y : Int32} (hd : decode cc pc = .ok (.iadd, 1)) (kk : G X nL kc ks n Ly (pc + 1) lv (.inl (x + y) :: st) I P) : G X nL kc ks n Ly pc lv (.inl y :: .inl x :: st) I P := by
  obtain ⟨p, l, e, R, s, m, args, below, meth, c, s0, D, DA, Q⟩ := X
  obtain ⟨hx, hb, hml, hown, hts, hK, hN, hs0, hlk, hR1, hR2, hR3, hR4⟩ := F
  intro H locs ls hz hP hS hL
  exact lv_iadd hx hb hd (kk H locs ls hz hP hS hL)
theorem s_isub (F : Fx X own cc nL d mc ms) {x y : Int32} (hd : decode cc pc = .ok (.isub, 1)) (kk : G X nL kc ks n Ly (pc + 1) lv (.inl (x - y) :: st) I P) : G X nL kc ks n Ly pc lv (.inl y :: .inl x :: st) I P := by
  obtain ⟨p, l, e, R, s, m, args, below, meth, c, s0, D, DA, Q⟩ := X
  obtain ⟨hx, hb, hml, hown, hts, hK, hN, hs0, hlk, hR1, hR2, hR3, hR4⟩ := F
  intro H locs ls hz hP hS hL
  exact lv_isub hx hb hd (kk H locs ls hz hP hS hL)
theorem s_imul (F : Fx X own cc nL d mc ms) {x y : Int32} (hd : decode cc pc = .ok (.imul, 1)) (kk : G X nL kc ks n Ly (pc + 1) lv (.inl (x * y) :: st) I P) : G X nL kc ks n Ly pc lv (.inl y :: .inl x :: st) I P := by
  obtain ⟨p, l, e, R, s, m, args, below, meth, c, s0, D, DA, Q⟩ := X
  obtain ⟨hx, hb, hml, hown, hts, hK, hN, hs0, hlk, hR1, hR2, hR3, hR4⟩ := F
  intro H locs ls hz hP hS hL
  exact lv_imul hx hb hd (kk H locs ls hz hP hS hL)
theorem s_iand (F : Fx X own cc nL d mc ms) {x y : Int32} (hd : decode cc pc = .ok (.iand, 1)) (kk : G X nL kc ks n Ly (pc + 1) lv (.inl (x &&& y) :: st) I P) : G X nL kc ks n Ly pc lv (.inl y :: .inl x :: st) I P := by
  obtain ⟨p, l, e, R, s, m, args, below, meth, c, s0, D, DA, Q⟩ := X
  obtain ⟨hx, hb, hml, hown, hts, hK, hN, hs0, hlk, hR1, hR2, hR3, hR4⟩ := F
  intro H locs ls hz hP hS hL
  exact lv_iand hx hb hd (kk H locs ls hz hP hS hL)
theorem s_ineg (F : Fx X own cc nL d mc ms) {x : Int32} (hd : decode cc pc = .ok (.ineg, 1)) (kk : G X nL kc ks n Ly (pc + 1) lv (.inl (-x) :: st) I P) : G X nL kc ks n Ly pc lv (.inl x :: st) I P := by
  obtain ⟨p, l, e, R, s, m, args, below, meth, c, s0, D, DA, Q⟩ := X
  obtain ⟨hx, hb, hml, hown, hts, hK, hN, hs0, hlk, hR1, hR2, hR3, hR4⟩ := F
  intro H locs ls hz hP hS hL
  exact lv_ineg hx hb hd (kk H locs ls hz hP hS hL)
theorem s_idiv (F : Fx X own cc nL d mc ms) {x y : Int32} (hd : decode cc pc = .ok (.idiv, 1)) (hy : ¬ y = 0) (kk : G X nL kc ks n Ly (pc + 1) lv (.inl (x / y) :: st) I P) : G X nL kc ks n Ly pc lv (.inl y :: .inl x :: st) I P := by
  obtain ⟨p, l, e, R, s, m, args, below, meth, c, s0, D, DA, Q⟩ := X
  obtain ⟨hx, hb, hml, hown, hts, hK, hN, hs0, hlk, hR1, hR2, hR3, hR4⟩ := F
  intro H locs ls hz hP hS hL
  exact lv_idiv hx hb hd hy (kk H locs ls hz hP hS hL)
theorem s_irem (F : Fx X own cc nL d mc ms) {x y : Int32} (hd : decode cc pc = .ok (.irem, 1)) (hy : ¬ y = 0) (kk : G X nL kc ks n Ly (pc + 1) lv (.inl (x - x / y * y) :: st) I P) : G X nL kc ks n Ly pc lv (.inl y :: .inl x :: st) I P := by
  obtain ⟨p, l, e, R, s, m, args, below, meth, c, s0, D, DA, Q⟩ := X
  obtain ⟨hx, hb, hml, hown, hts, hK, hN, hs0, hlk, hR1, hR2, hR3, hR4⟩ := F
  intro H locs ls hz hP hS hL
  exact lv_irem hx hb hd hy (kk H locs ls hz hP hS hL)
theorem s_i2c (F : Fx X own cc nL d mc ms) {x : Int32} (hd : decode cc pc = .ok (.i2c, 1)) (kk : G X nL kc ks n Ly (pc + 1) lv (.inl (x.toUInt32 % 65536).toInt32 :: st) I P) : G X nL kc ks n Ly pc lv (.inl x :: st) I P := by
  obtain ⟨p, l, e, R, s, m, args, below, meth, c, s0, D, DA, Q⟩ := X
  obtain ⟨hx, hb, hml, hown, hts, hK, hN, hs0, hlk, hR1, hR2, hR3, hR4⟩ := F
  intro H locs ls hz hP hS hL
  exact lv_i2c hx hb hd rfl (kk H locs ls hz hP hS hL)
theorem s_dup (F : Fx X own cc nL d mc ms) {a : AV} (hd : decode cc pc = .ok (.dup, 1)) (kk : G X nL kc ks n Ly (pc + 1) lv (a :: a :: st) I P) : G X nL kc ks n Ly pc lv (a :: st) I P := by
  obtain ⟨p, l, e, R, s, m, args, below, meth, c, s0, D, DA, Q⟩ := X
  obtain ⟨hx, hb, hml, hown, hts, hK, hN, hs0, hlk, hR1, hR2, hR3, hR4⟩ := F
  intro H locs ls hz hP hS hL
  exact lv_dup hx hb hd (cv_cat s0 a) (kk H locs ls hz hP hS hL)
theorem s_pop (F : Fx X own cc nL d mc ms) {a : AV} (hd : decode cc pc = .ok (.pop, 1)) (kk : G X nL kc ks n Ly (pc + 1) lv st I P) : G X nL kc ks n Ly pc lv (a :: st) I P := by
  obtain ⟨p, l, e, R, s, m, args, below, meth, c, s0, D, DA, Q⟩ := X
  obtain ⟨hx, hb, hml, hown, hts, hK, hN, hs0, hlk, hR1, hR2, hR3, hR4⟩ := F
  intro H locs ls hz hP hS hL
  exact lv_pop hx hb hd (cv_cat s0 a) (kk H locs ls hz hP hS hL)
theorem s_dup_x1 (F : Fx X own cc nL d mc ms) {a b : AV} (hd : decode cc pc = .ok (.dup_x1, 1)) (kk : G X nL kc ks n Ly (pc + 1) lv (a :: b :: a :: st) I P) : G X nL kc ks n Ly pc lv (a :: b :: st) I P := by
  obtain ⟨p, l, e, R, s, m, args, below, meth, c, s0, D, DA, Q⟩ := X
  obtain ⟨hx, hb, hml, hown, hts, hK, hN, hs0, hlk, hR1, hR2, hR3, hR4⟩ := F
  intro H locs ls hz hP hS hL
  exact lv_dup_x1 hx hb hd (cv_cat s0 a) (cv_cat s0 b) (kk H locs ls hz hP hS hL)
theorem s_dup_x2 (F : Fx X own cc nL d mc ms) {a b f : AV} (hd : decode cc pc = .ok (.dup_x2, 1)) (kk : G X nL kc ks n Ly (pc + 1) lv (a :: b :: f :: a :: st) I P) : G X nL kc ks n Ly pc lv (a :: b :: f :: st) I P := by
  obtain ⟨p, l, e, R, s, m, args, below, meth, c, s0, D, DA, Q⟩ := X
  obtain ⟨hx, hb, hml, hown, hts, hK, hN, hs0, hlk, hR1, hR2, hR3, hR4⟩ := F
  intro H locs ls hz hP hS hL
  exact lv_dup_x2 hx hb hd (cv_cat s0 a) (cv_cat s0 b) (cv_cat s0 f) (kk H locs ls hz hP hS hL)
theorem s_dup2 (F : Fx X own cc nL d mc ms) {a b : AV} (hd : decode cc pc = .ok (.dup2, 1)) (kk : G X nL kc ks n Ly (pc + 1) lv (a :: b :: a :: b :: st) I P) : G X nL kc ks n Ly pc lv (a :: b :: st) I P := by
  obtain ⟨p, l, e, R, s, m, args, below, meth, c, s0, D, DA, Q⟩ := X
  obtain ⟨hx, hb, hml, hown, hts, hK, hN, hs0, hlk, hR1, hR2, hR3, hR4⟩ := F
  intro H locs ls hz hP hS hL
  exact lv_dup2_11 hx hb hd (cv_cat s0 a) (cv_cat s0 b) (kk H locs ls hz hP hS hL)
theorem s_if_eq (F : Fx X own cc nL d mc ms) {x : Int32} {off : Int} {tgt : Nat} (hd : decode cc pc = .ok (.ifCond .eq off, 3)) (ht : (pc : Int) + off = (tgt : Int)) (kt : x = 0 → G X nL kc ks n Ly tgt lv st I P) (kf : ¬ x = 0 → G X nL kc ks n Ly (pc + 3) lv st I P) : G X nL kc ks n Ly pc lv (.inl x :: st) I P := by
  obtain ⟨p, l, e, R, s, m, args, below, meth, c, s0, D, DA, Q⟩ := X
  obtain ⟨hx, hb, hml, hown, hts, hK, hN, hs0, hlk, hR1, hR2, hR3, hR4⟩ := F
  intro H locs ls hz hP hS hL
  exact lv_if_eq hx hb hd ht (fun q => kt q H locs ls hz hP hS hL) (fun q => kf q H locs ls hz hP hS hL)
theorem s_if_ne (F : Fx X own cc nL d mc ms) {x : Int32} {off : Int} {tgt : Nat} (hd : decode cc pc = .ok (.ifCond .ne off, 3)) (ht : (pc : Int) + off = (tgt : Int)) (kt : ¬ x = 0 → G X nL kc ks n Ly tgt lv st I P) (kf : x = 0 → G X nL kc ks n Ly (pc + 3) lv st I P) : G X nL kc ks n Ly pc lv (.inl x :: st) I P := by
  obtain ⟨p, l, e, R, s, m, args, below, meth, c, s0, D, DA, Q⟩ := X
  obtain ⟨hx, hb, hml, hown, hts, hK, hN, hs0, hlk, hR1, hR2, hR3, hR4⟩ := F
  intro H locs ls hz hP hS hL
  exact lv_if_ne hx hb hd ht (fun q => kt q H locs ls hz hP hS hL) (fun q => kf q H locs ls hz hP hS hL)
theorem s_if_lt (F : Fx X own cc nL d mc ms) {x : Int32} {off : Int} {tgt : Nat} (hd : decode cc pc = .ok (.ifCond .lt off, 3)) (ht : (pc : Int) + off = (tgt : Int)) (kt : x < 0 → G X nL kc ks n Ly tgt lv st I P) (kf : ¬ x < 0 → G X nL kc ks n Ly (pc + 3) lv st I P) : G X nL kc ks n Ly pc lv (.inl x :: st) I P := by
  obtain ⟨p, l, e, R, s, m, args, below, meth, c, s0, D, DA, Q⟩ := X
  obtain ⟨hx, hb, hml, hown, hts, hK, hN, hs0, hlk, hR1, hR2, hR3, hR4⟩ := F
  intro H locs ls hz hP hS hL
  exact lv_if_lt hx hb hd ht (fun q => kt q H locs ls hz hP hS hL) (fun q => kf q H locs ls hz hP hS hL)
theorem s_if_ge (F : Fx X own cc nL d mc ms) {x : Int32} {off : Int} {tgt : Nat} (hd : decode cc pc = .ok (.ifCond .ge off, 3)) (ht : (pc : Int) + off = (tgt : Int)) (kt : 0 ≤ x → G X nL kc ks n Ly tgt lv st I P) (kf : ¬ 0 ≤ x → G X nL kc ks n Ly (pc + 3) lv st I P) : G X nL kc ks n Ly pc lv (.inl x :: st) I P := by
  obtain ⟨p, l, e, R, s, m, args, below, meth, c, s0, D, DA, Q⟩ := X
  obtain ⟨hx, hb, hml, hown, hts, hK, hN, hs0, hlk, hR1, hR2, hR3, hR4⟩ := F
  intro H locs ls hz hP hS hL
  exact lv_if_ge hx hb hd ht (fun q => kt q H locs ls hz hP hS hL) (fun q => kf q H locs ls hz hP hS hL)
theorem s_if_gt (F : Fx X own cc nL d mc ms) {x : Int32} {off : Int} {tgt : Nat} (hd : decode cc pc = .ok (.ifCond .gt off, 3)) (ht : (pc : Int) + off = (tgt : Int)) (kt : 0 < x → G X nL kc ks n Ly tgt lv st I P) (kf : ¬ 0 < x → G X nL kc ks n Ly (pc + 3) lv st I P) : G X nL kc ks n Ly pc lv (.inl x :: st) I P := by
  obtain ⟨p, l, e, R, s, m, args, below, meth, c, s0, D, DA, Q⟩ := X
  obtain ⟨hx, hb, hml, hown, hts, hK, hN, hs0, hlk, hR1, hR2, hR3, hR4⟩ := F
  intro H locs ls hz hP hS hL
  exact lv_if_gt hx hb hd ht (fun q => kt q H locs ls hz hP hS hL) (fun q => kf q H locs ls hz hP hS hL)
theorem s_if_le (F : Fx X own cc nL d mc ms) {x : Int32} {off : Int} {tgt : Nat} (hd : decode cc pc = .ok (.ifCond .le off, 3)) (ht : (pc : Int) + off = (tgt : Int)) (kt : x ≤ 0 → G X nL kc ks n Ly tgt lv st I P) (kf : ¬ x ≤ 0 → G X nL kc ks n Ly (pc + 3) lv st I P) : G X nL kc ks n Ly pc lv (.inl x :: st) I P := by
  obtain ⟨p, l, e, R, s, m, args, below, meth, c, s0, D, DA, Q⟩ := X
  obtain ⟨hx, hb, hml, hown, hts, hK, hN, hs0, hlk, hR1, hR2, hR3, hR4⟩ := F
  intro H locs ls hz hP hS hL
  exact lv_if_le hx hb hd ht (fun q => kt q H locs ls hz hP hS hL) (fun q => kf q H locs ls hz hP hS hL)
theorem s_icmp_eq (F : Fx X own cc nL d mc ms) {x y : Int32} {off : Int} {tgt : Nat} (hd : decode cc pc = .ok (.if_icmp .eq off, 3)) (ht : (pc : Int) + off = (tgt : Int)) (kt : x = y → G X nL kc ks n Ly tgt lv st I P) (kf : ¬ x = y → G X nL kc ks n Ly (pc + 3) lv st I P) : G X nL kc ks n Ly pc lv (.inl y :: .inl x :: st) I P := by
  obtain ⟨p, l, e, R, s, m, args, below, meth, c, s0, D, DA, Q⟩ := X
  obtain ⟨hx, hb, hml, hown, hts, hK, hN, hs0, hlk, hR1, hR2, hR3, hR4⟩ := F
  intro H locs ls hz hP hS hL
  exact lv_icmp_eq hx hb hd ht (fun q => kt q H locs ls hz hP hS hL) (fun q => kf q H locs ls hz hP hS hL)
theorem s_icmp_ne (F : Fx X own cc nL d mc ms) {x y : Int32} {off : Int} {tgt : Nat} (hd : decode cc pc = .ok (.if_icmp .ne off, 3)) (ht : (pc : Int) + off = (tgt : Int)) (kt : ¬ x = y → G X nL kc ks n Ly tgt lv st I P) (kf : x = y → G X nL kc ks n Ly (pc + 3) lv st I P) : G X nL kc ks n Ly pc lv (.inl y :: .inl x :: st) I P := by
  obtain ⟨p, l, e, R, s, m, args, below, meth, c, s0, D, DA, Q⟩ := X
  obtain ⟨hx, hb, hml, hown, hts, hK, hN, hs0, hlk, hR1, hR2, hR3, hR4⟩ := F
  intro H locs ls hz hP hS hL
  exact lv_icmp_ne hx hb hd ht (fun q => kt q H locs ls hz hP hS hL) (fun q => kf q H locs ls hz hP hS hL)
theorem s_icmp_lt (F : Fx X own cc nL d mc ms) {x y : Int32} {off : Int} {tgt : Nat} (hd : decode cc pc = .ok (.if_icmp .lt off, 3)) (ht : (pc : Int) + off = (tgt : Int)) (kt : x < y → G X nL kc ks n Ly tgt lv st I P) (kf : ¬ x < y → G X nL kc ks n Ly (pc + 3) lv st I P) : G X nL kc ks n Ly pc lv (.inl y :: .inl x :: st) I P := by
  obtain ⟨p, l, e, R, s, m, args, below, meth, c, s0, D, DA, Q⟩ := X
  obtain ⟨hx, hb, hml, hown, hts, hK, hN, hs0, hlk, hR1, hR2, hR3, hR4⟩ := F
  intro H locs ls hz hP hS hL
  exact lv_icmp_lt hx hb hd ht (fun q => kt q H locs ls hz hP hS hL) (fun q => kf q H locs ls hz hP hS hL)
theorem s_icmp_ge (F : Fx X own cc nL d mc ms) {x y : Int32} {off : Int} {tgt : Nat} (hd : decode cc pc = .ok (.if_icmp .ge off, 3)) (ht : (pc : Int) + off = (tgt : Int)) (kt : y ≤ x → G X nL kc ks n Ly tgt lv st I P) (kf : ¬ y ≤ x → G X nL kc ks n Ly (pc + 3) lv st I P) : G X nL kc ks n Ly pc lv (.inl y :: .inl x :: st) I P := by
  obtain ⟨p, l, e, R, s, m, args, below, meth, c, s0, D, DA, Q⟩ := X
  obtain ⟨hx, hb, hml, hown, hts, hK, hN, hs0, hlk, hR1, hR2, hR3, hR4⟩ := F
  intro H locs ls hz hP hS hL
  exact lv_icmp_ge hx hb hd ht (fun q => kt q H locs ls hz hP hS hL) (fun q => kf q H locs ls hz hP hS hL)
theorem s_icmp_gt (F : Fx X own cc nL d mc ms) {x y : Int32} {off : Int} {tgt : Nat} (hd : decode cc pc = .ok (.if_icmp .gt off, 3)) (ht : (pc : Int) + off = (tgt : Int)) (kt : y < x → G X nL kc ks n Ly tgt lv st I P) (kf : ¬ y < x → G X nL kc ks n Ly (pc + 3) lv st I P) : G X nL kc ks n Ly pc lv (.inl y :: .inl x :: st) I P := by
  obtain ⟨p, l, e, R, s, m, args, below, meth, c, s0, D, DA, Q⟩ := X
  obtain ⟨hx, hb, hml, hown, hts, hK, hN, hs0, hlk, hR1, hR2, hR3, hR4⟩ := F
  intro H locs ls hz hP hS hL
  exact lv_icmp_gt hx hb hd ht (fun q => kt q H locs ls hz hP hS hL) (fun q => kf q H locs ls hz hP hS hL)
theorem s_icmp_le (F : Fx X own cc nL d mc ms) {x y : Int32} {off : Int} {tgt : Nat} (hd : decode cc pc = .ok (.if_icmp .le off, 3)) (ht : (pc : Int) + off = (tgt : Int)) (kt : x ≤ y → G X nL kc ks n Ly tgt lv st I P) (kf : ¬ x ≤ y → G X nL kc ks n Ly (pc + 3) lv st I P) : G X nL kc ks n Ly pc lv (.inl y :: .inl x :: st) I P := by
  obtain ⟨p, l, e, R, s, m, args, below, meth, c, s0, D, DA, Q⟩ := X
  obtain ⟨hx, hb, hml, hown, hts, hK, hN, hs0, hlk, hR1, hR2, hR3, hR4⟩ := F
  intro H locs ls hz hP hS hL
  exact lv_icmp_le hx hb hd ht (fun q => kt q H locs ls hz hP hS hL) (fun q => kf q H locs ls hz hP hS hL)
theorem s_goto (F : Fx X own cc nL d mc ms) {off : Int} {tgt : Nat} (hd : decode cc pc = .ok (.goto off, 3)) (ht : (pc : Int) + off = (tgt : Int)) (kk : G X nL kc ks n Ly tgt lv st I P) : G X nL kc ks n Ly pc lv st I P := by
  obtain ⟨p, l, e, R, s, m, args, below, meth, c, s0, D, DA, Q⟩ := X
  obtain ⟨hx, hb, hml, hown, hts, hK, hN, hs0, hlk, hR1, hR2, hR3, hR4⟩ := F
  intro H locs ls hz hP hS hL
  exact lv_goto hx hb hd ht (kk H locs ls hz hP hS hL)
theorem s_ifnull (F : Fx X own cc nL d mc ms) {off : Int} {b : Nat} (hd : decode cc pc = .ok (.ifnull off, 3)) (kk : G X nL kc ks n Ly (pc + 3) lv st I P) : G X nL kc ks n Ly pc lv (.inr (some b) :: st) I P := by
  obtain ⟨p, l, e, R, s, m, args, below, meth, c, s0, D, DA, Q⟩ := X
  obtain ⟨hx, hb, hml, hown, hts, hK, hN, hs0, hlk, hR1, hR2, hR3, hR4⟩ := F
  intro H locs ls hz hP hS hL
  exact lv_ifnull hx hb hd (kk H locs ls hz hP hS hL)
theorem s_ifnullN (F : Fx X own cc nL d mc ms) {off : Int} {tgt : Nat} (hd : decode cc pc = .ok (.ifnull off, 3)) (ht : (pc : Int) + off = (tgt : Int)) (kk : G X nL kc ks n Ly tgt lv st I P) : G X nL kc ks n Ly pc lv (.inr none :: st) I P := by
  obtain ⟨p, l, e, R, s, m, args, below, meth, c, s0, D, DA, Q⟩ := X
  obtain ⟨hx, hb, hml, hown, hts, hK, hN, hs0, hlk, hR1, hR2, hR3, hR4⟩ := F
  intro H locs ls hz hP hS hL
  exact lv_ifnullN hx hb hd ht (kk H locs ls hz hP hS hL)
theorem s_ifnonnull (F : Fx X own cc nL d mc ms) {off : Int} {tgt b : Nat} (hd : decode cc pc = .ok (.ifnonnull off, 3)) (ht : (pc : Int) + off = (tgt : Int)) (kk : G X nL kc ks n Ly tgt lv st I P) : G X nL kc ks n Ly pc lv (.inr (some b) :: st) I P := by
  obtain ⟨p, l, e, R, s, m, args, below, meth, c, s0, D, DA, Q⟩ := X
  obtain ⟨hx, hb, hml, hown, hts, hK, hN, hs0, hlk, hR1, hR2, hR3, hR4⟩ := F
  intro H locs ls hz hP hS hL
  exact lv_ifnonnull hx hb hd ht (kk H locs ls hz hP hS hL)
theorem s_ifnonnullN (F : Fx X own cc nL d mc ms) {off : Int} (hd : decode cc pc = .ok (.ifnonnull off, 3)) (kk : G X nL kc ks n Ly (pc + 3) lv st I P) : G X nL kc ks n Ly pc lv (.inr none :: st) I P := by
  obtain ⟨p, l, e, R, s, m, args, below, meth, c, s0, D, DA, Q⟩ := X
  obtain ⟨hx, hb, hml, hown, hts, hK, hN, hs0, hlk, hR1, hR2, hR3, hR4⟩ := F
  intro H locs ls hz hP hS hL
  exact lv_ifnonnullN hx hb hd (kk H locs ls hz hP hS hL)
theorem s_swOut (F : Fx X own cc nL d mc ms) {dflt lo hi : Int} {offs : Array Int} {len : Nat} {x : Int32} {tgt : Nat} (hd : decode cc pc = .ok (.tableswitch dflt lo hi offs, len)) (h : x.toInt < lo ∨ hi < x.toInt) (ht : (pc : Int) + dflt = (tgt : Int)) (kk : G X nL kc ks n Ly tgt lv st I P) : G X nL kc ks n Ly pc lv (.inl x :: st) I P := by
  obtain ⟨p, l, e, R, s, m, args, below, meth, c, s0, D, DA, Q⟩ := X
  obtain ⟨hx, hb, hml, hown, hts, hK, hN, hs0, hlk, hR1, hR2, hR3, hR4⟩ := F
  intro H locs ls hz hP hS hL
  exact lv_tableOut hx hb hd h ht (kk H locs ls hz hP hS hL)
theorem s_swIn (F : Fx X own cc nL d mc ms) {dflt lo hi : Int} {offs : Array Int} {len : Nat} {x : Int32} {off : Int} {tgt : Nat} (hd : decode cc pc = .ok (.tableswitch dflt lo hi offs, len)) (h1 : ¬ x.toInt < lo) (h2 : ¬ hi < x.toInt) (ho : offs[(x.toInt - lo).toNat]? = some off) (ht : (pc : Int) + off = (tgt : Int)) (kk : G X nL kc ks n Ly tgt lv st I P) : G X nL kc ks n Ly pc lv (.inl x :: st) I P := by
  obtain ⟨p, l, e, R, s, m, args, below, meth, c, s0, D, DA, Q⟩ := X
  obtain ⟨hx, hb, hml, hown, hts, hK, hN, hs0, hlk, hR1, hR2, hR3, hR4⟩ := F
  intro H locs ls hz hP hS hL
  exact lv_tableIn hx hb hd h1 h2 ho ht (kk H locs ls hz hP hS hL)
theorem s_getI (F : Fx X own cc nL d mc ms) {idx ci k a : Nat} (hd : decode cc pc = .ok (.getfield idx, 3)) (hf : FL own idx ci k) (hl : Ly a = .inl ci) (ha : a < n) (hr : isR ci k = false) (kk : G X nL kc ks n Ly (pc + 3) lv (.inl (I a k) :: st) I P) : G X nL kc ks n Ly pc lv (.inr (some a) :: st) I P := by
  obtain ⟨p, l, e, R, s, m, args, below, meth, c, s0, D, DA, Q⟩ := X
  obtain ⟨hx, hb, hml, hown, hts, hK, hN, hs0, hlk, hR1, hR2, hR3, hR4⟩ := F
  intro H locs ls hz hP hS hL
  obtain ⟨hci, hk, hlink⟩ := hf
  refine va_get (v := .int (I a k)) hx hb hts (ws_in hci) hown hK hP a ((wd_get ha).trans (by rw [cE_o hl])) (cl_at hci) k hk (hts _ hlink) (fun _ h => h) ?_ hd (kk H locs ls hz hP hS hL)
  simp [hk, fV, hr]
theorem s_getR (F : Fx X own cc nL d mc ms) {idx ci k a : Nat} {o : Option Nat} (hd : decode cc pc = .ok (.getfield idx, 3)) (hf : FL own idx ci k) (hl : Ly a = .inl ci) (ha : a < n) (hr : isR ci k = true) (ho : P a k = o) (kk : G X nL kc ks n Ly (pc + 3) lv (.inr o :: st) I P) : G X nL kc ks n Ly pc lv (.inr (some a) :: st) I P := by
  obtain ⟨p, l, e, R, s, m, args, below, meth, c, s0, D, DA, Q⟩ := X
  obtain ⟨hx, hb, hml, hown, hts, hK, hN, hs0, hlk, hR1, hR2, hR3, hR4⟩ := F
  intro H locs ls hz hP hS hL
  obtain ⟨hci, hk, hlink⟩ := hf
  subst ho
  refine va_get (v := rv s0 (P a k)) hx hb hts (ws_in hci) hown hK hP a ((wd_get ha).trans (by rw [cE_o hl])) (cl_at hci) k hk (hts _ hlink) (fun _ h => h) ?_ hd (kk H locs ls hz hP hS hL)
  simp [hk, fV, hr]
theorem s_putI (F : Fx X own cc nL d mc ms) {idx ci k a : Nat} {x : Int32} (hd : decode cc pc = .ok (.putfield idx, 3)) (hf : FL own idx ci k) (hl : Ly a = .inl ci) (ha : a < n) (hr : isR ci k = false) (hfin : (TF ci k).2.2.2 = false) (hn : narrow (tyF ci k) (.int x) = .int x ∧ fits (tyF ci k) (.int x) = true) (kk : G X nL kc ks n Ly (pc + 3) lv st (up2 I a k x) P) : G X nL kc ks n Ly pc lv (.inl x :: .inr (some a) :: st) I P := by
  obtain ⟨p, l, e, R, s, m, args, below, meth, c, s0, D, DA, Q⟩ := X
  obtain ⟨hx, hb, hml, hown, hts, hK, hN, hs0, hlk, hR1, hR2, hR3, hR4⟩ := F
  intro H locs ls hz hP hS hL
  obtain ⟨hci, hk, hlink⟩ := hf
  refine va_put (v := .int x) hx hb hts (ws_in hci) (tyF ci) (ty_ok hci) (nm_ok hci) hown hK hP wd_D hS a ((wd_get ha).trans (by rw [cE_o hl])) (cl_at hci) k hk (hts _ hlink) (fun _ h => h) hfin (ty_ok hci k hk) hn.1 hn.2 (by simpa using hk) hd (fun H1 locs1 hP1 _ hS1 => kk H1 locs1 ls hz ?_ hS1 hL)
  rw [fs_setI hk hr, wd_set (I' := up2 I a k x) (P' := P) ha (by rw [cE_o hl]) (fun j hj => up2_n hj) (fun _ _ => rfl)] at hP1
  exact hP1
theorem s_putF (F : Fx X own cc nL d mc ms) (hi : Fi X) {idx ci k a : Nat} {o : Option Nat} (hd : decode cc pc = .ok (.putfield idx, 3)) (hf : FL own idx ci k) (hl : Ly a = .inl ci) (ha : a < n) (hr : isR ci k = true) (hfin : (TF ci k).2.2.2 = true) (hdec : (TF ci k).1 = own) (kk : G X nL kc ks n Ly (pc + 3) lv st I (upP P a k o)) : G X nL kc ks n Ly pc lv (.inr o :: .inr (some a) :: st) I P := by
  obtain ⟨p, l, e, R, s, m, args, below, meth, c, s0, D, DA, Q⟩ := X
  obtain ⟨hx, hb, hml, hown, hts, hK, hN, hs0, hlk, hR1, hR2, hR3, hR4⟩ := F
  intro H locs ls hz hP hS hL
  obtain ⟨hci, hk, hlink⟩ := hf
  refine va_putF (v := rv s0 o) hx hb hts (ws_in hci) (tyF ci) (ty_ok hci) (nm_ok hci) hown hK hP wd_D hS a ((wd_get ha).trans (by rw [cE_o hl])) (cl_at hci) k hk (hts _ hlink) (fun _ h => h) hfin hi hdec (ty_ok hci k hk) (rv_ok hr).1 (rv_ok hr).2 (by simpa using hk) hd (fun H1 locs1 hP1 _ hS1 => kk H1 locs1 ls hz ?_ hS1 hL)
  rw [fs_setR hk hr, wd_set (I' := I) (P' := upP P a k o) ha (by rw [cE_o hl]) (fun _ _ => rfl) (fun j hj => upP_n hj)] at hP1
  exact hP1
theorem s_iald (F : Fx X own cc nL d mc ms) {a len : Nat} {x : Int32} (hd : decode cc pc = .ok (.iaload, 1)) (hl : Ly a = .inr (0, len)) (ha : a < n) (hin : vp_in x len) (kk : G X nL kc ks n Ly (pc + 1) lv (.inl (I a x.toNatClampNeg) :: st) I P) : G X nL kc ks n Ly pc lv (.inl x :: .inr (some a) :: st) I P := by
  obtain ⟨p, l, e, R, s, m, args, below, meth, c, s0, D, DA, Q⟩ := X
  obtain ⟨hx, hb, hml, hown, hts, hK, hN, hs0, hlk, hR1, hR2, hR3, hR4⟩ := F
  intro H locs ls hz hP hS hL
  exact va_iald hx hb hK hP a 0 ((wd_get ha).trans (by rw [cE_i hl (by decide)])) rfl hin hd (kk H locs ls hz hP hS hL)
theorem s_iast (F : Fx X own cc nL d mc ms) {a len : Nat} {x v : Int32} (hd : decode cc pc = .ok (.iastore, 1)) (hl : Ly a = .inr (0, len)) (ha : a < n) (hin : vp_in x len) (kk : G X nL kc ks n Ly (pc + 1) lv st (up2 I a x.toNatClampNeg v) P) : G X nL kc ks n Ly pc lv (.inl v :: .inl x :: .inr (some a) :: st) I P := by
  obtain ⟨p, l, e, R, s, m, args, below, meth, c, s0, D, DA, Q⟩ := X
  obtain ⟨hx, hb, hml, hown, hts, hK, hN, hs0, hlk, hR1, hR2, hR3, hR4⟩ := F
  intro H locs ls hz hP hS hL
  refine va_iast hx hb hK hP wd_D hS a 0 ((wd_get ha).trans (by rw [cE_i hl (by decide)])) rfl hin hd (fun H1 locs1 hP1 _ hS1 => kk H1 locs1 ls hz ?_ hS1 hL)
  rw [wd_set (I' := up2 I a x.toNatClampNeg v) (P' := P) ha (by rw [cE_i hl (by decide), up2_s]) (fun j hj => up2_n hj) (fun _ _ => rfl)] at hP1
  exact hP1
theorem s_cald (F : Fx X own cc nL d mc ms) {a len : Nat} {x : Int32} (hd : decode cc pc = .ok (.caload, 1)) (hl : Ly a = .inr (1, len)) (ha : a < n) (hin : vp_in x len) (kk : G X nL kc ks n Ly (pc + 1) lv (.inl (I a x.toNatClampNeg) :: st) I P) : G X nL kc ks n Ly pc lv (.inl x :: .inr (some a) :: st) I P := by
  obtain ⟨p, l, e, R, s, m, args, below, meth, c, s0, D, DA, Q⟩ := X
  obtain ⟨hx, hb, hml, hown, hts, hK, hN, hs0, hlk, hR1, hR2, hR3, hR4⟩ := F
  intro H locs ls hz hP hS hL
  exact va_cald hx hb hK hP a 1 ((wd_get ha).trans (by rw [cE_i hl (by decide)])) rfl hin hd (kk H locs ls hz hP hS hL)
theorem s_cast (F : Fx X own cc nL d mc ms) {a len : Nat} {x v : Int32} (hd : decode cc pc = .ok (.castore, 1)) (hl : Ly a = .inr (1, len)) (ha : a < n) (hin : vp_in x len) (hn : vp_nar .char v = v) (kk : G X nL kc ks n Ly (pc + 1) lv st (up2 I a x.toNatClampNeg v) P) : G X nL kc ks n Ly pc lv (.inl v :: .inl x :: .inr (some a) :: st) I P := by
  obtain ⟨p, l, e, R, s, m, args, below, meth, c, s0, D, DA, Q⟩ := X
  obtain ⟨hx, hb, hml, hown, hts, hK, hN, hs0, hlk, hR1, hR2, hR3, hR4⟩ := F
  intro H locs ls hz hP hS hL
  refine va_cast hx hb hK hP wd_D hS a 1 ((wd_get ha).trans (by rw [cE_i hl (by decide)])) rfl hin hd (fun H1 locs1 hP1 _ hS1 => kk H1 locs1 ls hz ?_ hS1 hL)
  rw [hn] at hP1
  rw [wd_set (I' := up2 I a x.toNatClampNeg v) (P' := P) ha (by rw [cE_i hl (by decide), up2_s]) (fun j hj => up2_n hj) (fun _ _ => rfl)] at hP1
  exact hP1
theorem s_zald (F : Fx X own cc nL d mc ms) {a len : Nat} {x : Int32} (hd : decode cc pc = .ok (.baload, 1)) (hl : Ly a = .inr (2, len)) (ha : a < n) (hin : vp_in x len) (kk : G X nL kc ks n Ly (pc + 1) lv (.inl (I a x.toNatClampNeg) :: st) I P) : G X nL kc ks n Ly pc lv (.inl x :: .inr (some a) :: st) I P := by
  obtain ⟨p, l, e, R, s, m, args, below, meth, c, s0, D, DA, Q⟩ := X
  obtain ⟨hx, hb, hml, hown, hts, hK, hN, hs0, hlk, hR1, hR2, hR3, hR4⟩ := F
  intro H locs ls hz hP hS hL
  exact va_zald hx hb hK hP a 2 ((wd_get ha).trans (by rw [cE_i hl (by decide)])) rfl hin hd (kk H locs ls hz hP hS hL)
theorem s_zast (F : Fx X own cc nL d mc ms) {a len : Nat} {x v : Int32} (hd : decode cc pc = .ok (.bastore, 1)) (hl : Ly a = .inr (2, len)) (ha : a < n) (hin : vp_in x len) (hn : vp_nar .boolean v = v) (kk : G X nL kc ks n Ly (pc + 1) lv st (up2 I a x.toNatClampNeg v) P) : G X nL kc ks n Ly pc lv (.inl v :: .inl x :: .inr (some a) :: st) I P := by
  obtain ⟨p, l, e, R, s, m, args, below, meth, c, s0, D, DA, Q⟩ := X
  obtain ⟨hx, hb, hml, hown, hts, hK, hN, hs0, hlk, hR1, hR2, hR3, hR4⟩ := F
  intro H locs ls hz hP hS hL
  refine va_zast hx hb hK hP wd_D hS a 2 ((wd_get ha).trans (by rw [cE_i hl (by decide)])) rfl hin hd (fun H1 locs1 hP1 _ hS1 => kk H1 locs1 ls hz ?_ hS1 hL)
  rw [hn] at hP1
  rw [wd_set (I' := up2 I a x.toNatClampNeg v) (P' := P) ha (by rw [cE_i hl (by decide), up2_s]) (fun j hj => up2_n hj) (fun _ _ => rfl)] at hP1
  exact hP1
theorem s_aald (F : Fx X own cc nL d mc ms) {a t len : Nat} {x : Int32} {o : Option Nat} (hd : decode cc pc = .ok (.aaload, 1)) (hl : Ly a = .inr (t, len)) (ht : t = 3 ∨ t = 4 ∨ t = 5) (ha : a < n) (hin : vp_in x len) (ho : P a x.toNatClampNeg = o) (kk : G X nL kc ks n Ly (pc + 1) lv (.inr o :: st) I P) : G X nL kc ks n Ly pc lv (.inl x :: .inr (some a) :: st) I P := by
  obtain ⟨p, l, e, R, s, m, args, below, meth, c, s0, D, DA, Q⟩ := X
  obtain ⟨hx, hb, hml, hown, hts, hK, hN, hs0, hlk, hR1, hR2, hR3, hR4⟩ := F
  intro H locs ls hz hP hS hL
  subst ho
  rcases ht with rfl | rfl | rfl
  · exact va_aldq (f := fun j => (P a j).map fun x => s0 + x) hx hb hK hP a 3 ((wd_get ha).trans (by rw [cE_q hl (by decide)])) rfl hin hd (kk H locs ls hz hP hS hL)
  · exact va_aldq (f := fun j => (P a j).map fun x => s0 + x) hx hb hK hP a 4 ((wd_get ha).trans (by rw [cE_q hl (by decide)])) rfl hin hd (kk H locs ls hz hP hS hL)
  · exact va_aldq (f := fun j => (P a j).map fun x => s0 + x) hx hb hK hP a 5 ((wd_get ha).trans (by rw [cE_q hl (by decide)])) rfl hin hd (kk H locs ls hz hP hS hL)
theorem s_aast (F : Fx X own cc nL d mc ms) {a b t ci len : Nat} {x : Int32} (hd : decode cc pc = .ok (.aastore, 1)) (hl : Ly a = .inr (t, len)) (ht : (t = 3 ∧ ci = 6) ∨ (t = 4 ∧ ci = 4) ∨ (t = 5 ∧ ci = 3)) (ha : a < n) (hlb : Ly b = .inl ci) (hbn : b < n) (hin : vp_in x len) (kk : G X nL kc ks n Ly (pc + 1) lv st I (upP P a x.toNatClampNeg (some b))) : G X nL kc ks n Ly pc lv (.inr (some b) :: .inl x :: .inr (some a) :: st) I P := by
  obtain ⟨p, l, e, R, s, m, args, below, meth, c, s0, D, DA, Q⟩ := X
  obtain ⟨hx, hb, hml, hown, hts, hK, hN, hs0, hlk, hR1, hR2, hR3, hR4⟩ := F
  intro H locs ls hz hP hS hL
  have go : ∀ (H1 : Heap) (locs1 : List Loc), ¬ t < 3 → va_P D vwCl ((wd s0 DA Ly I P n).set a (s0 + a, .inl (DA t, len, .inr (.inr (.inr (.inr (va_up (fun j => (P a j).map fun x => s0 + x) x.toNatClampNeg (some (s0 + b)))))))) ) H1 → va_S (fun q => s0 ≤ q) s.heap H1 locs1 → W p l e R s m args below meth c H1 locs1 kc ks Q (F0 m (pc + 1) ls (st.map (cv s0))) := by
    intro H1 locs1 ht3 hP1 hS1
    refine kk H1 locs1 ls hz ?_ hS1 hL
    rw [wd_set (I' := I) (P' := upP P a x.toNatClampNeg (some b)) ha ?_ (fun _ _ => rfl) (fun j hj => upP_n hj)] at hP1
    · exact hP1
    · rw [cE_q hl ht3]
      refine congrArg (fun f => Sum.inl (DA t, len, Sum.inr (Sum.inr (Sum.inr (Sum.inr f))))) ?_
      funext j
      by_cases hj : j = x.toNatClampNeg
      · subst hj
        simp [va_up, upP]
      · simp [va_up, upP, hj]
  rcases ht with ⟨rfl, rfl⟩ | ⟨rfl, rfl⟩ | ⟨rfl, rfl⟩
  · exact va_astq hx hb hK hP wd_D hS a 3 b 6 ((wd_get ha).trans (by rw [cE_q hl (by decide)])) rfl ((wd_get hbn).trans (by rw [cE_o hlb])) rfl hin hd (fun H1 locs1 hP1 _ hS1 => go H1 locs1 (by decide) hP1 hS1)
  · exact va_astq hx hb hK hP wd_D hS a 4 b 4 ((wd_get ha).trans (by rw [cE_q hl (by decide)])) rfl ((wd_get hbn).trans (by rw [cE_o hlb])) rfl hin hd (fun H1 locs1 hP1 _ hS1 => go H1 locs1 (by decide) hP1 hS1)
  · exact va_astq hx hb hK hP wd_D hS a 5 b 3 ((wd_get ha).trans (by rw [cE_q hl (by decide)])) rfl ((wd_get hbn).trans (by rw [cE_o hlb])) rfl hin hd (fun H1 locs1 hP1 _ hS1 => go H1 locs1 (by decide) hP1 hS1)
theorem s_alen (F : Fx X own cc nL d mc ms) {a t len : Nat} {v : Int32} (hd : decode cc pc = .ok (.arraylength, 1)) (hl : Ly a = .inr (t, len)) (ht : t < 6) (ha : a < n) (hv : Int32.ofNat len = v) (kk : G X nL kc ks n Ly (pc + 1) lv (.inl v :: st) I P) : G X nL kc ks n Ly pc lv (.inr (some a) :: st) I P := by
  obtain ⟨p, l, e, R, s, m, args, below, meth, c, s0, D, DA, Q⟩ := X
  obtain ⟨hx, hb, hml, hown, hts, hK, hN, hs0, hlk, hR1, hR2, hR3, hR4⟩ := F
  intro H locs ls hz hP hS hL
  obtain ⟨ty, hty⟩ : ∃ ty, (tysA DA)[t]? = some (DA t, ty) := by
    match t, ht with
    | 0, _ => exact ⟨_, rfl⟩
    | 1, _ => exact ⟨_, rfl⟩
    | 2, _ => exact ⟨_, rfl⟩
    | 3, _ => exact ⟨_, rfl⟩
    | 4, _ => exact ⟨_, rfl⟩
    | 5, _ => exact ⟨_, rfl⟩
    | j + 6, h => exact absurd h (by omega)
  have hg : ∃ f, (wd s0 DA Ly I P n)[a]? = some (s0 + a, .inl (DA t, (len, f))) := by
    rw [wd_get ha]
    unfold cE
    rw [hl]
    exact ⟨_, rfl⟩
  obtain ⟨f, hf⟩ := hg
  exact va_alen hx hb hK hP a t hf hty hv hd (kk H locs ls hz hP hS hL)
theorem s_copy (F : Fx X own cc nL d mc ms) {idx a0 a n0 : Nat} {z : Int32} (hd : decode cc pc = .ok (.invokestatic idx, 3)) (hk : LC own idx) (hd1 : 1 ≤ d) (hl0 : Ly a0 = .inr (0, n0)) (hl1 : Ly a = .inr (0, n0)) (ha0 : a0 < n) (ha : a < n) (hlen : st.length ≤ 8) (hz0 : z.toNatClampNeg = n0) (hz1 : ¬ z < 0) (kk : G X nL kc ks n Ly (pc + 3) lv st (cp2 I a0 a n0) P) : G X nL kc ks n Ly pc lv (.inl z :: .inl 0 :: .inr (some a) :: .inl 0 :: .inr (some a0) :: st) I P := by
  obtain ⟨p, l, e, R, s, m, args, below, meth, c, s0, D, DA, Q⟩ := X
  obtain ⟨hx, hb, hml, hown, hts, hK, hN, hs0, hlk, hR1, hR2, hR3, hR4⟩ := F
  intro H locs ls hZ hP hS hL
  obtain ⟨k1, k2, k3, k4⟩ := hk
  have h7 : nativeFrameWords "java/lang/System" "arraycopy" 5 = 7 := by decide +kernel
  refine va_copyi (sp := 0) (dp := 0) (n := z) (ty := .int) hx hb (hml.trans hL.1.symm) hown (hts _ k1) (hts _ k2) (hts _ k3) (hts _ k4) hK hP wd_D hS a0 a 0 0 ((wd_get ha0).trans (by rw [cE_i hl0 (by decide)])) ((wd_get ha).trans (by rw [cE_i hl1 (by decide)])) rfl rfl rfl (by decide) (by decide) hz1 (by rw [hz0]; exact Nat.le_of_eq (Nat.zero_add _)) (by rw [hz0]; exact Nat.le_of_eq (Nat.zero_add _)) (fun _ _ => rfl) (Nat.le_trans hd1 hR1) (by rw [cv_sum, h7]; omega) hd (fun H1 locs1 hP1 _ hS1 => kk H1 locs1 ls hZ ?_ hS1 hL)
  rw [wd_set (I' := cp2 I a0 a n0) (P' := P) ha ?_ (fun j hj => by simp [cp2, hj]) (fun _ _ => rfl)] at hP1
  · exact hP1
  · rw [cE_i hl1 (by decide), hz0]
    refine congrArg (fun f => Sum.inl (DA 0, n0, Sum.inl f)) ?_
    funext j
    simp [cp2, va_cpy]
theorem s_max (F : Fx X own cc nL d mc ms) {idx : Nat} {x y : Int32} (hd : decode cc pc = .ok (.invokestatic idx, 3)) (hk : LM own idx Lib.Math.max.name Lib.Math.max.code) (hd1 : 1 ≤ d) (hkc : kc ≤ mc) (hks : ks ≤ ms) (hlen : st.length ≤ 8) (kk : G X nL kc ks n Ly (pc + 3) lv (.inl (if x < y then y else x) :: st) I P) : G X nL kc ks n Ly pc lv (.inl y :: .inl x :: st) I P := by
  obtain ⟨p, l, e, R, s, m, args, below, meth, c, s0, D, DA, Q⟩ := X
  obtain ⟨hx, hb, hml, hown, hts, hK, hN, hs0, hlk, hR1, hR2, hR3, hR4⟩ := F
  intro H locs ls hz hP hS hL
  obtain ⟨k1, k2, k3, k4⟩ := hk
  exact va_mmax hx hb (hml.trans hL.1.symm) hown (hts _ k1) (hts _ k2) (hts _ k3) (hts _ k4) (Nat.le_trans hd1 hR1) (by rw [cv_sum]; omega) (Nat.le_trans hkc hR3) (Nat.le_trans hks hR4) hd (kk H locs ls hz hP hS hL)
theorem s_min (F : Fx X own cc nL d mc ms) {idx : Nat} {x y : Int32} (hd : decode cc pc = .ok (.invokestatic idx, 3)) (hk : LM own idx Lib.Math.min.name Lib.Math.min.code) (hd1 : 1 ≤ d) (hkc : kc ≤ mc) (hks : ks ≤ ms) (hlen : st.length ≤ 8) (kk : G X nL kc ks n Ly (pc + 3) lv (.inl (if y < x then y else x) :: st) I P) : G X nL kc ks n Ly pc lv (.inl y :: .inl x :: st) I P := by
  obtain ⟨p, l, e, R, s, m, args, below, meth, c, s0, D, DA, Q⟩ := X
  obtain ⟨hx, hb, hml, hown, hts, hK, hN, hs0, hlk, hR1, hR2, hR3, hR4⟩ := F
  intro H locs ls hz hP hS hL
  obtain ⟨k1, k2, k3, k4⟩ := hk
  exact va_mmin hx hb (hml.trans hL.1.symm) hown (hts _ k1) (hts _ k2) (hts _ k3) (hts _ k4) (Nat.le_trans hd1 hR1) (by rw [cv_sum]; omega) (Nat.le_trans hkc hR3) (Nat.le_trans hks hR4) hd (kk H locs ls hz hP hS hL)
theorem s_objInit (F : Fx X own cc nL d mc ms) {idx a : Nat} (hd : decode cc pc = .ok (.invokespecial idx, 3)) (hk : Cond.methodLink own idx Lib.objectInit ∈ tg ∧ Cond.instanceMethod Lib.objectInit ∈ tg ∧ Cond.code Lib.objectInit ⟨#[0xb1]⟩ 1 none ∈ tg) (hd1 : 1 ≤ d) (hlen : st.length ≤ 8) (kk : G X nL kc ks n Ly (pc + 3) lv st I P) : G X nL kc ks n Ly pc lv (.inr (some a) :: st) I P := by
  obtain ⟨p, l, e, R, s, m, args, below, meth, c, s0, D, DA, Q⟩ := X
  obtain ⟨hx, hb, hml, hown, hts, hK, hN, hs0, hlk, hR1, hR2, hR3, hR4⟩ := F
  intro H locs ls hz hP hS hL
  obtain ⟨k1, k2, k3⟩ := hk
  exact W.objInit hx hb hown (hts _ k1) (hts _ k2) (hts _ k3) rfl (hL.1.trans hml.symm) rfl hd (Nat.le_trans hd1 hR1) (by show 2 * 0 + _ + 12 ≤ _; rw [cv_sum]; omega) (kk H locs ls hz hP hS hL)
theorem s_iret (F : Fx X own cc nL d mc ms) {ty : FieldType} {Po : PQ} (hr : Fr X (some ty) Po mc ms) {v : Int32} (hd : decode cc pc = .ok (.ireturn, 1)) (hn : narrow ty (.int v) = .int v) (hkc : kc ≤ mc) (hks : ks ≤ ms) (hpo : Po (some (.inl v)) n Ly I P) : G X nL kc ks n Ly pc lv [.inl v] I P := by
  obtain ⟨p, l, e, R, s, m, args, below, meth, c, s0, D, DA, Q⟩ := X
  obtain ⟨hx, hb, hml, hown, hts, hK, hN, hs0, hlk, hR1, hR2, hR3, hR4⟩ := F
  obtain ⟨hr, rfl⟩ := hr
  intro H locs ls hz hP hS hL T hT Y
  have hsz := sz_of Y hT hz hP hS hs0
  exact W.widen hkc hks (W.zret hx hb hr hn (fun t ht hW => ⟨⟨some (.inl v), n, Ly, I, P, rfl, hpo, by rw [ht]; exact hsz, by rw [ht]; exact hP, va_K.moved hW.alike hK, hN.warm hW⟩, hS.F ht⟩) hS.2.2 hd hlk) T hT Y
theorem s_vret (F : Fx X own cc nL d mc ms) {Po : PQ} (hr : Fr X none Po mc ms) (hd : decode cc pc = .ok (.return_, 1)) (hkc : kc ≤ mc) (hks : ks ≤ ms) (hpo : Po none n Ly I P) : G X nL kc ks n Ly pc lv [] I P := by
  obtain ⟨p, l, e, R, s, m, args, below, meth, c, s0, D, DA, Q⟩ := X
  obtain ⟨hx, hb, hml, hown, hts, hK, hN, hs0, hlk, hR1, hR2, hR3, hR4⟩ := F
  obtain ⟨hr, rfl⟩ := hr
  intro H locs ls hz hP hS hL T hT Y
  have hsz := sz_of Y hT hz hP hS hs0
  exact W.widen hkc hks (W.vret hx hb hr (fun t ht hW => ⟨⟨none, n, Ly, I, P, rfl, hpo, by rw [ht]; exact hsz, by rw [ht]; exact hP, va_K.moved hW.alike hK, hN.warm hW⟩, hS.F ht⟩) hS.2.2 hd hlk) T hT Y
theorem s_aret (F : Fx X own cc nL d mc ms) {C : String} {Po : PQ} (hr : Fr X (some (.object C)) Po mc ms) {o : Option Nat} (hd : decode cc pc = .ok (.areturn, 1)) (hkc : kc ≤ mc) (hks : ks ≤ ms) (hpo : Po (some (.inr o)) n Ly I P) : G X nL kc ks n Ly pc lv [.inr o] I P := by
  obtain ⟨p, l, e, R, s, m, args, below, meth, c, s0, D, DA, Q⟩ := X
  obtain ⟨hx, hb, hml, hown, hts, hK, hN, hs0, hlk, hR1, hR2, hR3, hR4⟩ := F
  obtain ⟨hr, rfl⟩ := hr
  intro H locs ls hz hP hS hL T hT Y
  have hsz := sz_of Y hT hz hP hS hs0
  exact W.widen hkc hks (W.aret hx hb hr (Or.inl ⟨_, rfl⟩) (by cases o with
    | none => exact Or.inl rfl
    | some b => exact Or.inr ⟨_, rfl⟩) (fun t ht hW => ⟨⟨some (.inr o), n, Ly, I, P, rfl, hpo, by rw [ht]; exact hsz, by rw [ht]; exact hP, va_K.moved hW.alike hK, hN.warm hW⟩, hS.F ht⟩) hS.2.2 hd hlk) T hT Y
end ROWS
end
section
theorem Rl.blind {s0 : Nat} {D : va_G} {DA : Nat → ClassId} {n : Nat} {Ly : LL} {I : II} {P : PP} {av : List Value} : FrameBlind (va_Pc av (Rl s0 D DA n Ly I P)) := by
  intro a U g mk h
  obtain ⟨h1, h2, h3, h4, h5⟩ := h
  exact ⟨h1, h2, h3, va_K.moved (u := U) (U := U.calling g mk a) (Vm.Alike.refl U.vm) h4, Nst.same rfl h5⟩
theorem arg_get (s0 : Nat) : ∀ (av : List AV) (i0 k : Nat) (v : AV), av[k]? = some v → (i0 + k, cv s0 v) ∈ lv_args i0 (av.map (cv s0))
  | [], _, k, v, h => by simp at h
  | a :: av, i0, k, v, h => by
    rw [List.map_cons]
    unfold lv_args
    rw [if_neg (by rw [cv_cat]; decide)]
    cases k with
    | zero =>
      rw [List.getElem?_cons_zero] at h
      cases h
      exact List.mem_cons_self
    | succ k =>
      rw [List.getElem?_cons_succ] at h
      have := arg_get s0 av (i0 + 1) k v h
      rw [show i0 + 1 + k = i0 + (k + 1) by omega] at this
      exact List.mem_cons_of_mem _ this
theorem sl_len (s0 : Nat) (av : List AV) : (lg_sl (av.map (cv s0))).length = av.length := by
  unfold lg_sl
  induction av with
  | nil => rfl
  | cons a l ih =>
    rw [List.map_cons, List.flatMap_cons, List.length_append, ih, if_neg (by rw [cv_cat]; decide), List.length_cons]
    show 1 + l.length = l.length + 1
    omega
/-- a contract from a walk of the body -/
theorem ct_of {l : Launch} {s0 : Nat} {D : va_G} {DA : Nat → ClassId} {y : MethodName} {cc : ByteArray} {maxL : Nat} {ret : Option FieldType} {d : Nat} {av : List AV} {mc ms n : Nat} {Ly : LL} {I : II} {P : PP} {Po : PQ} (hp : plainName y.cls = true) (hav : av.length ≤ maxL)
    (body : ∀ X : Cx, Fx X y.cls cc maxL d mc ms → Fr X ret Po mc ms → (y.name = "<init>" → Fi X) → G X maxL 0 0 n Ly 0 (av.map some ++ List.replicate (maxL - av.length) none) [] I P) : Ct l s0 D DA (y, cc, maxL, ret, d) av mc ms n Ly I P Po := by
  refine Met.ofW (cc := cc) (maxL := maxL) (ret := ret) hp rfl ?_
  intro p e s m args below meth c s₁ B hml hv
  obtain ⟨rfl, hsz, hP, hK, hN⟩ := hv
  have hts := atoms_spec (ws := wsM (y, cc, maxL, ret, d)) B.pre
  have hs0 : s0 ≤ s.heap.size := by rw [hsz]; omega
  have hg := body (p, l, e, rmD d mc ms, s, m, (av.map (cv s0)).toArray, below, meth, c, s0, D, DA, MQ below (Qr s0 D DA Po) (av.map (cv s0)).toArray s mc ms (fun q => s0 ≤ q))
    ⟨B.exec, B.bytes, hml, findClass_of_methodNamed B.named, fun w hw => hts w (List.mem_cons_of_mem _ hw), hK, hN, hs0, B.notSynchronized, Nat.le_refl _, Nat.le_refl _, Nat.le_refl _, Nat.le_refl _⟩
    ⟨B.returns, rfl⟩ (fun h => (name_of_methodNamed B.named B.method).1.trans h)
  have hl := lv_entry (av.map (cv s0)) (n := maxL) (by rw [sl_len]; exact hav)
  have hent := lg_entry_eq m (av.map (cv s0)) maxL
  refine W.eq hent (hg s.heap [] _ (by omega) hP va_S.rf ⟨hl.1, hl.2.1, fun i v hi => hl.2.2 (i, cv s0 v) ?_⟩)
  by_cases hlt : i < av.length
  · rw [List.getElem?_append_left (by simpa using hlt)] at hi
    have h2 : av[i]? = some v := by
      cases h3 : av[i]? with
      | none => rw [List.getElem?_map, h3] at hi; cases hi
      | some w =>
        rw [List.getElem?_map, h3] at hi
        exact congrArg some (Option.some.inj (Option.some.inj hi))
    have := arg_get s0 av 0 i v h2
    rwa [Nat.zero_add] at this
  · rw [List.getElem?_append_right (by simpa using Nat.le_of_not_lt hlt)] at hi
    have := List.mem_of_getElem? hi
    have := List.eq_of_mem_replicate this
    cases this
theorem go_call {p : Program} {l : Launch} {e : Env} {R : Room} {s : State} {m : MethodId} {args : Array Value} {below : List Frame} {meth : Method} {c : Code} {H : Heap} {locs : List Loc} {kc ks mc' ms' s0 n pc : Nat} {D : va_G} {DA : Nat → ClassId} {Q : State → Prop} {ls : Array Slot} {st0 rest : List Value} {a : Array Value} {Po : PQ} {Ly : LL} {I : II} {P : PP}
    (hs0 : s0 ≤ s.heap.size) (hz : s.heap.size + kc = s0 + n) (hP : va_P D vwCl (wd s0 DA Ly I P n) H) (hS : va_S (fun q => s0 ≤ q) s.heap H locs)
    (hr : H.size = s0 + n → va_Run p l e R s m args below meth c H locs kc ks mc' ms' (F0 m pc ls st0) rest (Qr s0 D DA Po a) (fun q => s0 ≤ q))
    (hn : ∀ r n' Ly' I' P', Po r n' Ly' I' P' → n' = n + mc')
    (kk : ∀ (r : Option AV) (n' : Nat) (Ly' : LL) (I' : II) (P' : PP) (H1 : Heap) (locs1 : List Loc), Po r n' Ly' I' P' → s.heap.size + (kc + mc') = s0 + n' → va_P D vwCl (wd s0 DA Ly' I' P' n') H1 → va_S (fun q => s0 ≤ q) s.heap H1 locs1 → W p l e R s m args below meth c H1 locs1 (kc + mc') (ks + ms') Q (F0 m (pc + 3) ls ((r.map (cv s0)).toList ++ rest))) : W p l e R s m args below meth c H locs kc ks Q (F0 m pc ls st0) := by
  intro T hT X
  have hsz := sz_of X hT hz hP hS hs0
  obtain ⟨v, st₀, t, T', L, h0, X', hL, e1, e2, ⟨⟨r, n', Ly', I', P', hv, hp, hq1, hq2, hq3, hq4⟩, hF⟩, st⟩ := hr hsz T hT X
  cases hv
  obtain ⟨hz1, hk1⟩ := hF
  rw [h0] at hz1 hk1
  have hn' := hn _ _ _ _ _ hp
  obtain ⟨t2, a1, b1⟩ := kk r n' Ly' I' P' T'.heap (locs ++ L) hp (by omega) (by rw [e1]; exact hq2)
    ⟨Nat.le_trans hS.1 (by rw [e1]; exact hz1), fun q h1 h2 => by rw [e1, hk1 q (Nat.lt_of_lt_of_le h1 hS.1) h2]; exact hS.2.1 q h1 h2, fun q hq => by
      rcases List.mem_append.mp hq with h | h
      · exact hS.2.2 q h
      · exact hL q h⟩ T' rfl X'
  exact ⟨t2, st t2 a1, b1⟩
def MDok (md : MD) (na : Nat) : Prop := Cond.initialized md.1.cls ∈ tg ∧ Cond.code md.1 md.2.1 md.2.2.1 md.2.2.2.1 ∈ tg ∧ (md.1.cls ≠ "java/lang/invoke/MethodHandle" ∧ md.1.cls ≠ "java/lang/invoke/VarHandle" ∧ (parseMethodDescriptor md.1.desc).map (fun d => d.parameters.length) = some na) ∧ md.2.2.1 ≤ 21
theorem ws_sub {md : MD} (h : Cond.code md.1 md.2.1 md.2.2.1 md.2.2.2.1 ∈ tg) : ∀ w ∈ wsM md, w ∈ tg := by
  intro w hw
  rcases List.mem_cons.mp hw with rfl | hw
  · exact h
  · exact hw
theorem ws_good {md : MD} (h : Cond.code md.1 md.2.1 md.2.2.1 md.2.2.2.1 ∈ tg) : GoodIn tg (wsM md) := fun w hw => ⟨ws_sub h w hw, tg_good (ws_sub h w hw)⟩
section CALLS
variable {X : Cx} {own : String} {cc : ByteArray} {nL d mc ms kc ks n pc : Nat} {Ly : LL} {lv : List (Option AV)} {st st' : List AV} {I : II} {P : PP} {idx : Nat} {md : MD} {av : List AV} {mc' ms' : Nat} {Po : PQ}
def LV (own : String) (idx : Nat) (md : MD) : Prop := Cond.methodLink own idx md.1 ∈ tg ∧ Cond.instanceMethod md.1 ∈ tg ∧ Cond.selects md.1.cls md.1 md.1 ∈ tg
def LT (own : String) (idx : Nat) (md : MD) : Prop := Cond.methodLink own idx md.1 ∈ tg ∧ Cond.static md.1 ∈ tg
def LI (own : String) (idx : Nat) (md : MD) : Prop := Cond.methodLink own idx md.1 ∈ tg ∧ Cond.instanceMethod md.1 ∈ tg ∧ md.1.name = "<init>"
theorem s_callV {b ci : Nat} (F : Fx X own cc nL d mc ms) (hd : decode cc pc = .ok (.invokevirtual idx, 3)) (hC : ∀ (l : Launch) (s0 : Nat) (D : va_G) (DA : Nat → ClassId), Ct l s0 D DA md (.inr (some b) :: av) mc' ms' n Ly I P Po) (hk : LV own idx md) (hm : MDok md av.length) (hci : ci < 10) (hl : Ly b = .inl ci) (hb : b < n) (hcls : md.1.cls = RF ci) (hst : st' = av.reverse ++ .inr (some b) :: st) (hlen : st.length ≤ 8) (hdp : md.2.2.2.2 + 1 ≤ d) (hmc : kc + mc' ≤ mc) (hms : ks + ms' ≤ ms) (hn : ∀ r n' Ly' I' P', Po r n' Ly' I' P' → n' = n + mc')
    (kk : ∀ (r : Option AV) (n' : Nat) (Ly' : LL) (I' : II) (P' : PP), Po r n' Ly' I' P' → G X nL (kc + mc') (ks + ms') n' Ly' (pc + 3) lv (r.toList ++ st) I' P') : G X nL kc ks n Ly pc lv st' I P := by
  obtain ⟨p, l, e, R, s, m, args, below, meth, c, s0, D, DA, Q⟩ := X
  obtain ⟨hx, hb', hml, hown, hts, hK, hN, hs0, hlk, hR1, hR2, hR3, hR4⟩ := F
  obtain ⟨k1, k2, k3⟩ := hk
  obtain ⟨m1, m2, m3, m4⟩ := hm
  subst hst
  intro H locs ls hz hP hS hL
  have hG : GoodIn tg (wsV own idx md.1.cls md.1 (wsM md)) := by
    intro w hw
    rcases List.mem_append.mp hw with h | h
    · have : w ∈ tg := by
        simp only [List.mem_cons, List.not_mem_nil, or_false] at h
        rcases h with rfl | rfl | rfl | rfl
        · exact k1
        · exact k2
        · exact k3
        · exact m1
      exact ⟨this, tg_good this⟩
    · exact ws_good m2 w h
  have hrm : rmD md.2.2.2.2 mc' ms' = ({ frames := md.2.2.2.2, cells := mc', slots := ms', locals := 40 * md.2.2.2.2 } : Room) := rfl
  have cw := cwV (R := R) (s := s) (args := args) (own := own) (C := md.1.cls) (index := idx) (y := md.1) (bytes := md.2.1) (maxL := md.2.2.1) (ret := md.2.2.2.1) (ws := wsM md) (ws' := tg) (rm := rmD md.2.2.2.2 mc' ms') (mc := mc') (ms := ms') av.length hts hG rfl rfl rfl ⟨rfl, m3⟩ ⟨by show md.2.2.2.2 + 1 ≤ _; omega, by show 8 + (md.2.2.1 + 11) + 40 * md.2.2.2.2 ≤ _; omega⟩
  have hrc := va_recv hK hP (cl_at hci) ((wd_get hb).trans (by rw [cE_o hl]))
  refine go_call (Po := Po) (a := (Value.ref (s0 + b) :: av.map (cv s0)).toArray) (rest := st.map (cv s0)) hs0 hz hP hS (fun hsz => va_runV (b := s0 + b) (As := av.map (cv s0)) ⟨hx, hb', hml, hown, hts⟩ (hC l s0 D DA) cw ⟨Rl.blind, by rw [hcls]; exact hrc, fun U hU hW => ⟨rfl, by rw [hU]; exact hsz, by rw [hU]; exact hP, va_K.moved hW.alike hK, hN.warm hW⟩⟩ rfl (by simp) hL.1 (by simp only [List.map_append, List.map_reverse, List.map_cons]; rfl) (by show 2 * 0 + _ ≤ 8; rw [cv_sum]; omega) hd ⟨Nat.le_trans hmc hR3, Nat.le_trans hms hR4⟩) hn (fun r n' Ly' I' P' H1 locs1 hp hz1 hP1 hS1 => ?_)
  have := kk r n' Ly' I' P' hp H1 locs1 ls hz1 hP1 hS1 hL
  cases r with
  | none => exact this
  | some v => exact this
theorem s_callS (F : Fx X own cc nL d mc ms) (hd : decode cc pc = .ok (.invokestatic idx, 3)) (hC : ∀ (l : Launch) (s0 : Nat) (D : va_G) (DA : Nat → ClassId), Ct l s0 D DA md av mc' ms' n Ly I P Po) (hk : LT own idx md) (hm : MDok md av.length) (hst : st' = av.reverse ++ st) (hlen : st.length ≤ 8) (hdp : md.2.2.2.2 + 1 ≤ d) (hmc : kc + mc' ≤ mc) (hms : ks + ms' ≤ ms) (hn : ∀ r n' Ly' I' P', Po r n' Ly' I' P' → n' = n + mc')
    (kk : ∀ (r : Option AV) (n' : Nat) (Ly' : LL) (I' : II) (P' : PP), Po r n' Ly' I' P' → G X nL (kc + mc') (ks + ms') n' Ly' (pc + 3) lv (r.toList ++ st) I' P') : G X nL kc ks n Ly pc lv st' I P := by
  obtain ⟨p, l, e, R, s, m, args, below, meth, c, s0, D, DA, Q⟩ := X
  obtain ⟨hx, hb', hml, hown, hts, hK, hN, hs0, hlk, hR1, hR2, hR3, hR4⟩ := F
  obtain ⟨k1, k2⟩ := hk
  obtain ⟨m1, m2, m3, m4⟩ := hm
  subst hst
  intro H locs ls hz hP hS hL
  have cw : CallB R s args own idx md.1 md.2.1 md.2.2.1 md.2.2.2.1 (wsM md) (rmD md.2.2.2.2 mc' ms') mc' ms' av.length ∧ (Cond.static md.1).before args s = true := ⟨callB_of (ws' := tg) av.length hts (ws_good m2) rfl rfl rfl (hts _ m1) (hts _ k1) m3 ⟨by show md.2.2.2.2 + 1 ≤ _; omega, by show 8 + (md.2.2.1 + 11) + 40 * md.2.2.2.2 ≤ _; omega⟩, hts _ k2⟩
  refine go_call (Po := Po) (a := (av.map (cv s0)).toArray) (rest := st.map (cv s0)) hs0 hz hP hS (fun hsz => va_runS (As := av.map (cv s0)) ⟨hx, hb', hml, hown, hts⟩ (hC l s0 D DA) cw ⟨Rl.blind, fun U hU hW => ⟨rfl, by rw [hU]; exact hsz, by rw [hU]; exact hP, va_K.moved hW.alike hK, hN.warm hW⟩⟩ rfl (by simp) hL.1 (by simp only [List.map_append, List.map_reverse]) (by show 2 * 0 + _ ≤ 8; rw [cv_sum]; omega) hd ⟨Nat.le_trans hmc hR3, Nat.le_trans hms hR4⟩) hn (fun r n' Ly' I' P' H1 locs1 hp hz1 hP1 hS1 => ?_)
  have := kk r n' Ly' I' P' hp H1 locs1 ls hz1 hP1 hS1 hL
  cases r with
  | none => exact this
  | some v => exact this
theorem s_callSN {host : String} (F : Fx X own cc nL d mc ms) (hd : decode cc pc = .ok (.invokestatic idx, 3)) (hC : ∀ (l : Launch) (s0 : Nat) (D : va_G) (DA : Nat → ClassId), Ct l s0 D DA md av mc' ms' n Ly I P Po) (hk : (∀ U, Nst U → va_Nw (.methodLinkNest own idx md.1 host) U) ∧ Cond.static md.1 ∈ tg) (hm : MDok md av.length) (hst : st' = av.reverse ++ st) (hlen : st.length ≤ 8) (hdp : md.2.2.2.2 + 1 ≤ d) (hmc : kc + mc' ≤ mc) (hms : ks + ms' ≤ ms) (hn : ∀ r n' Ly' I' P', Po r n' Ly' I' P' → n' = n + mc')
    (kk : ∀ (r : Option AV) (n' : Nat) (Ly' : LL) (I' : II) (P' : PP), Po r n' Ly' I' P' → G X nL (kc + mc') (ks + ms') n' Ly' (pc + 3) lv (r.toList ++ st) I' P') : G X nL kc ks n Ly pc lv st' I P := by
  obtain ⟨p, l, e, R, s, m, args, below, meth, c, s0, D, DA, Q⟩ := X
  obtain ⟨hx, hb', hml, hown, hts, hK, hN, hs0, hlk, hR1, hR2, hR3, hR4⟩ := F
  obtain ⟨k1, k2⟩ := hk
  obtain ⟨m1, m2, m3, m4⟩ := hm
  subst hst
  intro H locs ls hz hP hS hL
  have cw := va_cnB (R := R) (s := s) (args := args) (own := own) (host := host) (index := idx) (y := md.1) (bytes := md.2.1) (maxL := md.2.2.1) (ret := md.2.2.2.1) (ws := wsM md) (ws' := tg) (rm := rmD md.2.2.2.2 mc' ms') (mc := mc') (ms := ms') av.length hts (ws_good m2) rfl rfl rfl (k1 s hN) (hts _ m1) m3 ⟨by show md.2.2.2.2 + 1 ≤ _; omega, by show 8 + (md.2.2.1 + 11) + 40 * md.2.2.2.2 ≤ _; omega⟩
  refine go_call (Po := Po) (a := (av.map (cv s0)).toArray) (rest := st.map (cv s0)) hs0 hz hP hS (fun hsz => va_runSN (As := av.map (cv s0)) ⟨hx, hb', hml, hown, hts⟩ (hC l s0 D DA) ⟨cw, hts _ k2, trivial⟩ ⟨Rl.blind, fun U hU hW => ⟨rfl, by rw [hU]; exact hsz, by rw [hU]; exact hP, va_K.moved hW.alike hK, hN.warm hW⟩⟩ rfl (by simp) hL.1 (by simp only [List.map_append, List.map_reverse]) (by show 2 * 0 + _ ≤ 8; rw [cv_sum]; omega) hd ⟨Nat.le_trans hmc hR3, Nat.le_trans hms hR4⟩) hn (fun r n' Ly' I' P' H1 locs1 hp hz1 hP1 hS1 => ?_)
  have := kk r n' Ly' I' P' hp H1 locs1 ls hz1 hP1 hS1 hL
  cases r with
  | none => exact this
  | some v => exact this
theorem s_callI {b : Nat} (F : Fx X own cc nL d mc ms) (hd : decode cc pc = .ok (.invokespecial idx, 3)) (hC : ∀ (l : Launch) (s0 : Nat) (D : va_G) (DA : Nat → ClassId), Ct l s0 D DA md (.inr (some b) :: av) mc' ms' n Ly I P Po) (hret : md.2.2.2.1 = none) (hk : LI own idx md) (hm : MDok md av.length) (hst : st' = av.reverse ++ .inr (some b) :: st) (hlen : st.length ≤ 8) (hdp : md.2.2.2.2 + 1 ≤ d) (hmc : kc + mc' ≤ mc) (hms : ks + ms' ≤ ms) (hn : ∀ r n' Ly' I' P', Po r n' Ly' I' P' → n' = n + mc')
    (kk : ∀ (r : Option AV) (n' : Nat) (Ly' : LL) (I' : II) (P' : PP), Po r n' Ly' I' P' → G X nL (kc + mc') (ks + ms') n' Ly' (pc + 3) lv (r.toList ++ st) I' P') : G X nL kc ks n Ly pc lv st' I P := by
  obtain ⟨p, l, e, R, s, m, args, below, meth, c, s0, D, DA, Q⟩ := X
  obtain ⟨hx, hb', hml, hown, hts, hK, hN, hs0, hlk, hR1, hR2, hR3, hR4⟩ := F
  obtain ⟨k1, k2, k3⟩ := hk
  obtain ⟨m1, m2, m3, m4⟩ := hm
  obtain ⟨y, by1, mL, rt, dp⟩ := md
  have hret : rt = none := hret
  subst hret
  subst hst
  intro H locs ls hz hP hS hL
  have cw := cwI (R := R) (s := s) (args := args) (own := own) (index := idx) (y := y) (bytes := by1) (maxL := mL) (ws := wsM (y, by1, mL, none, dp)) (ws' := tg) (rm := rmD dp mc' ms') (mc := mc') (ms := ms') av.length hts (ws_good m2) rfl rfl rfl (hts _ m1) (hts _ k1) (hts _ k2) k3 m3 ⟨by have : dp + 1 ≤ d := hdp; show dp + 1 ≤ _; omega, by have : dp + 1 ≤ d := hdp; have : mL ≤ 21 := m4; show 8 + (mL + 11) + 40 * dp ≤ _; omega⟩
  refine go_call (Po := Po) (a := (Value.ref (s0 + b) :: av.map (cv s0)).toArray) (rest := st.map (cv s0)) hs0 hz hP hS (fun hsz => va_runI (b := s0 + b) (As := av.map (cv s0)) ⟨hx, hb', hml, hown, hts⟩ (hC l s0 D DA) cw ⟨Rl.blind, fun U hU hW => ⟨rfl, by rw [hU]; exact hsz, by rw [hU]; exact hP, va_K.moved hW.alike hK, hN.warm hW⟩⟩ rfl (by simp) hL.1 (by simp only [List.map_append, List.map_reverse, List.map_cons]; rfl) (by show 2 * 0 + _ ≤ 8; rw [cv_sum]; omega) hd ⟨Nat.le_trans hmc hR3, Nat.le_trans hms hR4⟩) hn (fun r n' Ly' I' P' H1 locs1 hp hz1 hP1 hS1 => ?_)
  have := kk r n' Ly' I' P' hp H1 locs1 ls hz1 hP1 hS1 hL
  cases r with
  | none => exact this
  | some v => exact this
theorem s_callIN {b : Nat} {host : String} (F : Fx X own cc nL d mc ms) (hd : decode cc pc = .ok (.invokespecial idx, 3)) (hC : ∀ (l : Launch) (s0 : Nat) (D : va_G) (DA : Nat → ClassId), Ct l s0 D DA md (.inr (some b) :: av) mc' ms' n Ly I P Po) (hret : md.2.2.2.1 = none) (hk : (∀ U, Nst U → va_Nw (.methodLinkNest own idx md.1 host) U) ∧ Cond.instanceMethod md.1 ∈ tg ∧ md.1.name = "<init>") (hm : MDok md av.length) (hst : st' = av.reverse ++ .inr (some b) :: st) (hlen : st.length ≤ 8) (hdp : md.2.2.2.2 + 1 ≤ d) (hmc : kc + mc' ≤ mc) (hms : ks + ms' ≤ ms) (hn : ∀ r n' Ly' I' P', Po r n' Ly' I' P' → n' = n + mc')
    (kk : ∀ (r : Option AV) (n' : Nat) (Ly' : LL) (I' : II) (P' : PP), Po r n' Ly' I' P' → G X nL (kc + mc') (ks + ms') n' Ly' (pc + 3) lv (r.toList ++ st) I' P') : G X nL kc ks n Ly pc lv st' I P := by
  obtain ⟨p, l, e, R, s, m, args, below, meth, c, s0, D, DA, Q⟩ := X
  obtain ⟨hx, hb', hml, hown, hts, hK, hN, hs0, hlk, hR1, hR2, hR3, hR4⟩ := F
  obtain ⟨k1, k2, k3⟩ := hk
  obtain ⟨m1, m2, m3, m4⟩ := hm
  obtain ⟨y, by1, mL, rt, dp⟩ := md
  have hret : rt = none := hret
  subst hret
  subst hst
  intro H locs ls hz hP hS hL
  have cw := va_cnB (R := R) (s := s) (args := args) (own := own) (host := host) (index := idx) (y := y) (bytes := by1) (maxL := mL) (ret := none) (ws := wsM (y, by1, mL, none, dp)) (ws' := tg) (rm := rmD dp mc' ms') (mc := mc') (ms := ms') av.length hts (ws_good m2) rfl rfl rfl (k1 s hN) (hts _ m1) m3 ⟨by have : dp + 1 ≤ d := hdp; show dp + 1 ≤ _; omega, by have : dp + 1 ≤ d := hdp; have : mL ≤ 21 := m4; show 8 + (mL + 11) + 40 * dp ≤ _; omega⟩
  refine go_call (Po := Po) (a := (Value.ref (s0 + b) :: av.map (cv s0)).toArray) (rest := st.map (cv s0)) hs0 hz hP hS (fun hsz => va_runIN (b := s0 + b) (As := av.map (cv s0)) ⟨hx, hb', hml, hown, hts⟩ (hC l s0 D DA) ⟨cw, k3, hts _ k2⟩ ⟨Rl.blind, fun U hU hW => ⟨rfl, by rw [hU]; exact hsz, by rw [hU]; exact hP, va_K.moved hW.alike hK, hN.warm hW⟩⟩ rfl (by simp) hL.1 (by simp only [List.map_append, List.map_reverse, List.map_cons]; rfl) (by show 2 * 0 + _ ≤ 8; rw [cv_sum]; omega) hd ⟨Nat.le_trans hmc hR3, Nat.le_trans hms hR4⟩) hn (fun r n' Ly' I' P' H1 locs1 hp hz1 hP1 hS1 => ?_)
  have := kk r n' Ly' I' P' hp H1 locs1 ls hz1 hP1 hS1 hL
  cases r with
  | none => exact this
  | some v => exact this
end CALLS

section NEW
variable {X : Cx} {own : String} {cc : ByteArray} {nL d mc ms kc ks n pc : Nat} {Ly : LL} {lv : List (Option AV)} {st : List AV} {I : II} {P : PP}
def upL (Ly : LL) (n : Nat) (x : Nat ⊕ (Nat × Nat)) : LL := fun k => if k = n then x else Ly k
def nwI (I : II) (n : Nat) : II := fun k => if k = n then (fun _ => 0) else I k
def nwP (P : PP) (n : Nat) : PP := fun k => if k = n then (fun _ => none) else P k
theorem wd_push {s0 : Nat} {DA : Nat → ClassId} {Ly : LL} {I : II} {P : PP} {n : Nat} {x : Nat ⊕ (Nat × Nat)} : wd s0 DA (upL Ly n x) (nwI I n) (nwP P n) (n + 1) = wd s0 DA Ly I P n ++ [(s0 + n, cE s0 DA (upL Ly n x) (nwI I n) (nwP P n) n)] := by
  unfold wd
  rw [List.range_succ, List.map_append]
  congr 1
  refine List.map_congr_left fun k hk => ?_
  have hk : k < n := List.mem_range.mp hk
  unfold cE fV upL nwI nwP
  simp only [Nat.ne_of_lt hk, if_false]
theorem dv_ok {s0 ci j n : Nat} {I : II} {P : PP} : (match tyF ci j with | .int => True | .boolean => True | .object _ => True | .array _ => True | _ => False) → defaultValue (tyF ci j) = fV s0 (nwI I n) (nwP P n) ci n j := by
  intro h
  unfold fV isR nwI nwP
  cases ht : tyF ci j <;> rw [ht] at h <;> first | exact h.elim | simp [rv, va_rf, defaultValue]
set_option maxRecDepth 100000 in
theorem ty_small : ([0, 1, 2, 3, 4, 5, 6, 7, 8, 9] : List Nat).all (fun ci => (List.range (nF ci)).all (fun k => match tyF ci k with | .int => true | .boolean => true | .object _ => true | .array _ => true | _ => false)) = true := by decide +kernel
theorem ty_dv {s0 ci j n : Nat} {I : II} {P : PP} (hci : ci < 10) (hj : j < nF ci) : defaultValue (tyF ci j) = fV s0 (nwI I n) (nwP P n) ci n j := by
  refine dv_ok ?_
  have h1 := List.all_eq_true.mp (List.all_eq_true.mp ty_small ci (ci_mem hci)) j (List.mem_range.mpr hj)
  cases ht : tyF ci j <;> rw [ht] at h1 <;> first | exact trivial | exact absurd h1 (by decide)
def LN (own : String) (idx ci : Nat) : Prop := ci < 10 ∧ Cond.classLink own idx (RF ci) ∈ tg ∧ Cond.instantiable (RF ci) (nF ci) ∈ tg ∧ Cond.initialized (RF ci) ∈ tg
theorem s_new (F : Fx X own cc nL d mc ms) {idx ci : Nat} (hd : decode cc pc = .ok (.new idx, 3)) (hk : LN own idx ci) (hmc : kc + 1 ≤ mc) (hms : ks + nF ci ≤ ms) (kk : G X nL (kc + 1) (ks + nF ci) (n + 1) (upL Ly n (.inl ci)) (pc + 3) lv (.inr (some n) :: st) (nwI I n) (nwP P n)) : G X nL kc ks n Ly pc lv st I P := by
  obtain ⟨p, l, e, R, s, m, args, below, meth, c, s0, D, DA, Q⟩ := X
  obtain ⟨hx, hb, hml, hown, hts, hK, hN, hs0, hlk, hR1, hR2, hR3, hR4⟩ := F
  obtain ⟨hci, k1, k2, k3⟩ := hk
  intro H locs ls hz hP hS hL T hT Y
  have hsz := sz_of Y hT hz hP hS hs0
  refine (?_ : W p l e R s m args below meth c H locs kc ks Q (F0 m pc ls (st.map (cv s0)))) T hT Y
  have hKn := hK.1 ci _ (cl_at hci)
  refine W.newcK hx hb hown (hts _ k1) (hts _ k2) (hts _ k3) rfl hd (Nat.le_trans hmc hR3) (Nat.le_trans hms hR4) hKn.2.1 hsz fun H1 kC hkC e1 z1 o1 => ?_
  have hq : ∀ (k : Nat) (x : Nat × va_E), (wd s0 DA Ly I P n)[k]? = some x → H1[x.1]? = H[x.1]? := fun k x hx => o1 x.1 (by rw [← hsz]; exact (hP k x hx).lt)
  refine kk H1 locs ls (by omega) ?_ ⟨Nat.le_trans hS.1 (by omega), fun x h1 h2 => (o1 x (by have := hS.1; omega)).trans (hS.2.1 x h1 h2), hS.2.2⟩ hL
  rw [wd_push]
  refine (hP.kept hq).app (fun k x hx => ?_)
  have hz0 : k < 1 := (List.getElem?_eq_some_iff.mp hx).1
  rw [show k = 0 by omega] at hx
  cases hx
  rw [cE_o (show upL Ly n (.inl ci) n = .inl ci by simp [upL])]
  refine ⟨_, cl_at hci, (u_born (tyF ci) hts (ws_in hci) hKn hkC e1 (ty_ok hci)).to (fun j hj => ?_)⟩
  rw [ty_dv (s0 := s0) (n := n) (I := I) (P := P) hci hj]
  simp [vp_V, hj]
def LA (t : Nat) : ArrayType := if t = 0 then .int else if t = 1 then .char else .boolean
theorem ra_find {U : State} {cA : ClassId} {ty : FieldType} (h : va_RA U cA ty) (hno : ∀ C, ty ≠ .object C) : U.vm.findClass ("[" ++ ty.toString) = some cA := by
  cases ty <;> first | exact absurd rfl (hno _) | exact h
theorem s_newa (F : Fx X own cc nL d mc ms) {t len : Nat} {x : Int32} {at0 : ArrayType} {ty : FieldType} (hd : decode cc pc = .ok (.newarray at0, 2)) (hty : newarray.typeOf at0 = ty) (hdv : defaultValue ty = .int 0) (ht : t < 3) (htt : ∀ DA, (tysA DA)[t]? = some (DA t, ty)) (hw : Cond.arrayClass ty ∈ tg) (hno : ∀ C, ty ≠ .object C) (hx0 : ¬ x < 0) (hxl : x.toNatClampNeg = len) (hby : len * componentBytes ty ≤ 536870912) (hmc : kc + 1 ≤ mc) (hms : ks + len ≤ ms) (kk : G X nL (kc + 1) (ks + len) (n + 1) (upL Ly n (.inr (t, len))) (pc + 2) lv (.inr (some n) :: st) (nwI I n) (nwP P n)) : G X nL kc ks n Ly pc lv (.inl x :: st) I P := by
  obtain ⟨p, l, e, R, s, m, args, below, meth, c, s0, D, DA, Q⟩ := X
  obtain ⟨hx, hb, hml, hown, hts, hK, hN, hs0, hlk, hR1, hR2, hR3, hR4⟩ := F
  subst hty
  intro H locs ls hz hP hS hL T hT Y
  have hsz := sz_of Y hT hz hP hS hs0
  refine (?_ : W p l e R s m args below meth c H locs kc ks Q (F0 m pc ls ((.inl x :: st : List AV).map (cv s0)))) T hT Y
  refine va_newaK hx hb (hts _ hw) rfl hd rfl hx0 hxl hby (Nat.le_trans hmc hR3) (Nat.le_trans hms hR4) hsz fun H1 cA e1 z1 o1 hAr hNm => ?_
  have hRA := (hK.2 t _ (htt DA)).2
  have hcA : cA = DA t := Option.some.inj (hNm.symm.trans (ra_find hRA hno))
  subst hcA
  have hq : ∀ (k : Nat) (x : Nat × va_E), (wd s0 DA Ly I P n)[k]? = some x → H1[x.1]? = H[x.1]? := fun k x hx => o1 x.1 (by rw [← hsz]; exact (hP k x hx).lt)
  refine kk H1 locs ls (by omega) ?_ ⟨Nat.le_trans hS.1 (by omega), fun x h1 h2 => (o1 x (by have := hS.1; omega)).trans (hS.2.1 x h1 h2), hS.2.2⟩ hL
  rw [wd_push]
  refine (hP.kept hq).app (fun k x hx => ?_)
  have hz0 : k < 1 := (List.getElem?_eq_some_iff.mp hx).1
  rw [show k = 0 by omega] at hx
  cases hx
  rw [cE_i (show upL Ly n (.inr (t, len)) n = .inr (t, len) by simp [upL]) ht]
  show H1[s0 + n]? = some (vp_cell _ _)
  rw [vp_cell_i, e1, hdv]
  simp [nwI]
theorem s_anew (F : Fx X own cc nL d mc ms) {t len idx : Nat} {x : Int32} {C : String} (hd : decode cc pc = .ok (.anewarray idx, 3)) (ht : ¬ t < 3) (htt : ∀ DA, (tysA DA)[t]? = some (DA t, .object C)) (hw : Cond.classLink own idx C ∈ tg) (hov : ∀ U, Nst U → va_AO C U) (hx0 : ¬ x < 0) (hxl : x.toNatClampNeg = len) (hby : len * 4 ≤ 536870912) (hmc : kc + 1 ≤ mc) (hms : ks + len ≤ ms) (kk : G X nL (kc + 1) (ks + len) (n + 1) (upL Ly n (.inr (t, len))) (pc + 3) lv (.inr (some n) :: st) (nwI I n) (nwP P n)) : G X nL kc ks n Ly pc lv (.inl x :: st) I P := by
  obtain ⟨p, l, e, R, s, m, args, below, meth, c, s0, D, DA, Q⟩ := X
  obtain ⟨hx, hb, hml, hown, hts, hK, hN, hs0, hlk, hR1, hR2, hR3, hR4⟩ := F
  subst hxl
  intro H locs ls hz hP hS hL T hT Y
  have hsz := sz_of Y hT hz hP hS hs0
  refine (?_ : W p l e R s m args below meth c H locs kc ks Q (F0 m pc ls ((.inl x :: st : List AV).map (cv s0)))) T hT Y
  refine W.anew hx hb hown (hts _ hw) (va_AO.use (hov s hN)) rfl hd rfl hx0 hby (Nat.le_trans hmc hR3) (Nat.le_trans hms hR4) fun cA kA comp f1 f2 f3 f4 => ?_
  obtain ⟨kA', comp', g1, g2, g3, g4⟩ := (hK.2 t _ (htt DA)).2
  have hcA : cA = DA t := Option.some.inj (f1.symm.trans g4)
  subst hcA
  rw [hsz]
  generalize hH1 : H.push ({ cls := DA t, slots := Array.replicate x.toNatClampNeg .null, vm := .none } : Cell) = H1
  have z1 : H1.size = H.size + 1 := by rw [← hH1, Array.size_push]
  have e1 : H1[s0 + n]? = some (arrV (DA t) x.toNatClampNeg (fun _ => .null)) := by rw [← hsz, ← hH1, Array.getElem?_push_size, ← arrV_new]
  have o1 : ∀ q : Nat, q < H.size → H1[q]? = H[q]? := fun q hq => by rw [← hH1, Array.getElem?_push, if_neg (Nat.ne_of_lt hq)]
  have hq : ∀ (k : Nat) (x : Nat × va_E), (wd s0 DA Ly I P n)[k]? = some x → H1[x.1]? = H[x.1]? := fun k x hx => o1 x.1 ((hP k x hx).lt)
  refine kk H1 locs ls (by omega) ?_ ⟨Nat.le_trans hS.1 (by omega), fun x h1 h2 => (o1 x (by have := hS.1; omega)).trans (hS.2.1 x h1 h2), hS.2.2⟩ hL
  rw [wd_push]
  refine (hP.kept hq).app (fun k x hx => ?_)
  have hz0 : k < 1 := (List.getElem?_eq_some_iff.mp hx).1
  rw [show k = 0 by omega] at hx
  cases hx
  rw [cE_q (show upL Ly n (.inr (t, x.toNatClampNeg)) n = .inr (t, x.toNatClampNeg) by simp [upL]) ht]
  show H1[s0 + n]? = some (vp_cell _ _)
  rw [vp_cell_q, e1]
  simp [nwP, va_rf]
end NEW
end
section
def rm (x y : Int32) : Int32 := x - x / y * y
def c16 (x : Int32) : Int32 := (x.toUInt32 % 65536).toInt32
def isB (x : Int32) : Prop := x = 0 ∨ x = 1
def isC (x : Int32) : Prop := vp_nar .char x = x ∧ narrow .char (.int x) = .int x
def layCL : List (Nat ⊕ (Nat × Nat)) := [.inl 8, .inl 7, .inl 4, .inr (0, 256), .inr (3, 8), .inl 5, .inr (0, 30), .inl 6, .inl 6, .inl 6, .inl 6, .inl 6, .inl 6, .inl 6, .inl 6, .inl 0, .inr (0, 128), .inr (0, 128), .inr (0, 128), .inr (0, 256), .inr (0, 256), .inl 1, .inr (4, 5), .inl 4, .inr (0, 256), .inr (3, 8), .inl 5, .inr (0, 30), .inl 6, .inl 6, .inl 6, .inl 6, .inl 6, .inl 6, .inl 6, .inl 6, .inl 4, .inr (0, 256), .inr (3, 8), .inl 5, .inr (0, 30), .inl 6, .inl 6, .inl 6, .inl 6, .inl 6, .inl 6, .inl 6, .inl 6, .inl 4, .inr (0, 256), .inr (3, 8), .inl 5, .inr (0, 30), .inl 6, .inl 6, .inl 6, .inl 6, .inl 6, .inl 6, .inl 6, .inl 6, .inl 4, .inr (0, 256), .inr (3, 8), .inl 5, .inr (0, 30), .inl 6, .inl 6, .inl 6, .inl 6, .inl 6, .inl 6, .inl 6, .inl 6, .inl 4, .inr (0, 256), .inr (3, 8), .inl 5, .inr (0, 30), .inl 6, .inl 6, .inl 6, .inl 6, .inl 6, .inl 6, .inl 6, .inl 6, .inl 2, .inr (1, 40), .inr (1, 40), .inr (0, 40), .inr (5, 2), .inl 3, .inl 4, .inr (0, 256), .inr (3, 8), .inl 5, .inr (0, 30), .inl 6, .inl 6, .inl 6, .inl 6, .inl 6, .inl 6, .inl 6, .inl 6, .inl 3, .inl 4, .inr (0, 256), .inr (3, 8), .inl 5, .inr (0, 30), .inl 6, .inl 6, .inl 6, .inl 6, .inl 6, .inl 6, .inl 6, .inl 6, .inl 4, .inr (0, 256), .inr (3, 8), .inl 5, .inr (0, 30), .inl 6, .inl 6, .inl 6, .inl 6, .inl 6, .inl 6, .inl 6, .inl 6]
def layML : List (Nat ⊕ (Nat × Nat)) := [.inl 9, .inr (0, 367), .inr (0, 367), .inr (0, 1835), .inr (0, 734), .inr (2, 2), .inr (0, 256), .inr (0, 128), .inr (0, 128), .inr (0, 128), .inr (0, 128), .inr (0, 256), .inr (1, 40), .inr (1, 40), .inr (0, 40)]
def SB (b : Nat) : Prop := b = 2 ∨ b = 23 ∨ b = 36 ∨ b = 49 ∨ b = 62 ∨ b = 75 ∨ b = 94 ∨ b = 108 ∨ b = 121
def HB (b : Nat) : Prop := b = 23 ∨ b = 36 ∨ b = 49 ∨ b = 62 ∨ b = 75
def LB (b : Nat) : Prop := b = 93 ∨ b = 107
def TB (t : Nat) : Prop := ∃ b, SB b ∧ t = b + 3
def AB (t : Nat) : Prop := ∃ b, SB b ∧ t = b + 1
def WB (t : Nat) : Prop := ∃ b j, SB b ∧ j < 8 ∧ t = b + 5 + j
def hq (P : PP) (i : Nat) : Nat := (P 22 i).getD 0
def PC (P : PP) : Prop := (P 0 0 = some 1 ∧ P 0 1 = some 21 ∧ P 0 2 = some 88 ∧ P 0 3 = some 92 ∧ P 0 4 = some 121 ∧ P 1 0 = some 2 ∧ P 1 1 = some 15 ∧ P 15 0 = some 16 ∧ P 15 1 = some 17 ∧ P 15 2 = some 18 ∧ P 15 3 = some 19 ∧ P 15 4 = some 20 ∧ P 21 0 = some 22 ∧ P 88 0 = some 89 ∧ P 88 2 = some 90 ∧ P 88 3 = some 91 ∧ P 92 0 = some 93 ∧ P 92 1 = some 107 ∧ P 93 0 = some 94 ∧ P 107 0 = some 108) ∧ (∀ b, SB b → P b 2 = some (b + 1) ∧ P b 3 = some (b + 2) ∧ P b 5 = some (b + 3) ∧ P (b + 3) 0 = some (b + 4) ∧ ∀ j, j < 8 → P (b + 2) j = some (b + 5 + j)) ∧ ∀ i, i < 5 → ∃ b, HB b ∧ P 22 i = some b
def ShC (n : Nat) (Ly : LL) (P : PP) : Prop := 134 ≤ n ∧ (∀ k, k < 134 → Ly k = layCL.getD k (.inl 0)) ∧ PC P
def PM (P : PP) : Prop := P 134 0 = some 135 ∧ P 134 1 = some 136 ∧ P 134 2 = some 137 ∧ P 134 4 = some 138 ∧ P 134 5 = some 139 ∧ P 134 6 = some 140 ∧ P 134 8 = some 141 ∧ P 134 9 = some 142 ∧ P 134 10 = some 143 ∧ P 134 11 = some 144 ∧ P 134 12 = some 145 ∧ P 134 14 = some 146 ∧ P 134 16 = some 147 ∧ P 134 17 = some 148
def ShM (n : Nat) (Ly : LL) (P : PP) : Prop := 149 ≤ n ∧ (∀ k, k < 15 → Ly (134 + k) = layML.getD k (.inl 0)) ∧ PM P
theorem HB.sb {b : Nat} (h : HB b) : SB b := by unfold HB at h; unfold SB; omega
theorem sb2 : SB 2 := by unfold SB; omega
theorem sb23 : SB 23 := by unfold SB; omega
theorem sb36 : SB 36 := by unfold SB; omega
theorem sb49 : SB 49 := by unfold SB; omega
theorem sb62 : SB 62 := by unfold SB; omega
theorem sb75 : SB 75 := by unfold SB; omega
theorem sb94 : SB 94 := by unfold SB; omega
theorem sb108 : SB 108 := by unfold SB; omega
theorem sb121 : SB 121 := by unfold SB; omega
theorem vp_lt {x : Int32} {n : Nat} (h : vp_in x n) : x.toNatClampNeg < n := Nat.not_le.mp fun q => h (Or.inr q)
theorem nb_of {x : Int32} (h : isB x) : narrow .boolean (.int x) = .int x ∧ fits .boolean (.int x) = true := by rcases h with rfl | rfl <;> exact ⟨rfl, rfl⟩
theorem nz_of {x : Int32} (h : isB x) : vp_nar .boolean x = x := by rcases h with rfl | rfl <;> rfl
section SH
variable {n : Nat} {Ly : LL} {P : PP}
theorem ly0 (hs : ShC n Ly P) : Ly 0 = .inl 8 := (hs.2.1 0 (Nat.le_of_ble_eq_true rfl)).trans rfl
theorem lt0 (hs : ShC n Ly P) : 0 < n := Nat.lt_of_lt_of_le (Nat.le_of_ble_eq_true rfl : 0 < 134) hs.1
theorem ly1 (hs : ShC n Ly P) : Ly 1 = .inl 7 := (hs.2.1 1 (Nat.le_of_ble_eq_true rfl)).trans rfl
theorem lt1 (hs : ShC n Ly P) : 1 < n := Nat.lt_of_lt_of_le (Nat.le_of_ble_eq_true rfl : 1 < 134) hs.1
theorem ly15 (hs : ShC n Ly P) : Ly 15 = .inl 0 := (hs.2.1 15 (Nat.le_of_ble_eq_true rfl)).trans rfl
theorem lt15 (hs : ShC n Ly P) : 15 < n := Nat.lt_of_lt_of_le (Nat.le_of_ble_eq_true rfl : 15 < 134) hs.1
theorem ly16 (hs : ShC n Ly P) : Ly 16 = .inr (0, 128) := (hs.2.1 16 (Nat.le_of_ble_eq_true rfl)).trans rfl
theorem lt16 (hs : ShC n Ly P) : 16 < n := Nat.lt_of_lt_of_le (Nat.le_of_ble_eq_true rfl : 16 < 134) hs.1
theorem ly17 (hs : ShC n Ly P) : Ly 17 = .inr (0, 128) := (hs.2.1 17 (Nat.le_of_ble_eq_true rfl)).trans rfl
theorem lt17 (hs : ShC n Ly P) : 17 < n := Nat.lt_of_lt_of_le (Nat.le_of_ble_eq_true rfl : 17 < 134) hs.1
theorem ly18 (hs : ShC n Ly P) : Ly 18 = .inr (0, 128) := (hs.2.1 18 (Nat.le_of_ble_eq_true rfl)).trans rfl
theorem lt18 (hs : ShC n Ly P) : 18 < n := Nat.lt_of_lt_of_le (Nat.le_of_ble_eq_true rfl : 18 < 134) hs.1
theorem ly19 (hs : ShC n Ly P) : Ly 19 = .inr (0, 256) := (hs.2.1 19 (Nat.le_of_ble_eq_true rfl)).trans rfl
theorem lt19 (hs : ShC n Ly P) : 19 < n := Nat.lt_of_lt_of_le (Nat.le_of_ble_eq_true rfl : 19 < 134) hs.1
theorem ly20 (hs : ShC n Ly P) : Ly 20 = .inr (0, 256) := (hs.2.1 20 (Nat.le_of_ble_eq_true rfl)).trans rfl
theorem lt20 (hs : ShC n Ly P) : 20 < n := Nat.lt_of_lt_of_le (Nat.le_of_ble_eq_true rfl : 20 < 134) hs.1
theorem ly21 (hs : ShC n Ly P) : Ly 21 = .inl 1 := (hs.2.1 21 (Nat.le_of_ble_eq_true rfl)).trans rfl
theorem lt21 (hs : ShC n Ly P) : 21 < n := Nat.lt_of_lt_of_le (Nat.le_of_ble_eq_true rfl : 21 < 134) hs.1
theorem ly22 (hs : ShC n Ly P) : Ly 22 = .inr (4, 5) := (hs.2.1 22 (Nat.le_of_ble_eq_true rfl)).trans rfl
theorem lt22 (hs : ShC n Ly P) : 22 < n := Nat.lt_of_lt_of_le (Nat.le_of_ble_eq_true rfl : 22 < 134) hs.1
theorem ly88 (hs : ShC n Ly P) : Ly 88 = .inl 2 := (hs.2.1 88 (Nat.le_of_ble_eq_true rfl)).trans rfl
theorem lt88 (hs : ShC n Ly P) : 88 < n := Nat.lt_of_lt_of_le (Nat.le_of_ble_eq_true rfl : 88 < 134) hs.1
theorem ly89 (hs : ShC n Ly P) : Ly 89 = .inr (1, 40) := (hs.2.1 89 (Nat.le_of_ble_eq_true rfl)).trans rfl
theorem lt89 (hs : ShC n Ly P) : 89 < n := Nat.lt_of_lt_of_le (Nat.le_of_ble_eq_true rfl : 89 < 134) hs.1
theorem ly90 (hs : ShC n Ly P) : Ly 90 = .inr (1, 40) := (hs.2.1 90 (Nat.le_of_ble_eq_true rfl)).trans rfl
theorem lt90 (hs : ShC n Ly P) : 90 < n := Nat.lt_of_lt_of_le (Nat.le_of_ble_eq_true rfl : 90 < 134) hs.1
theorem ly91 (hs : ShC n Ly P) : Ly 91 = .inr (0, 40) := (hs.2.1 91 (Nat.le_of_ble_eq_true rfl)).trans rfl
theorem lt91 (hs : ShC n Ly P) : 91 < n := Nat.lt_of_lt_of_le (Nat.le_of_ble_eq_true rfl : 91 < 134) hs.1
theorem ly92 (hs : ShC n Ly P) : Ly 92 = .inr (5, 2) := (hs.2.1 92 (Nat.le_of_ble_eq_true rfl)).trans rfl
theorem lt92 (hs : ShC n Ly P) : 92 < n := Nat.lt_of_lt_of_le (Nat.le_of_ble_eq_true rfl : 92 < 134) hs.1
theorem ly134 (hs : ShM n Ly P) : Ly 134 = .inl 9 := (hs.2.1 0 (Nat.le_of_ble_eq_true rfl)).trans rfl
theorem lt134 (hs : ShM n Ly P) : 134 < n := Nat.lt_of_lt_of_le (Nat.le_of_ble_eq_true rfl : 134 < 149) hs.1
theorem ly135 (hs : ShM n Ly P) : Ly 135 = .inr (0, 367) := (hs.2.1 1 (Nat.le_of_ble_eq_true rfl)).trans rfl
theorem lt135 (hs : ShM n Ly P) : 135 < n := Nat.lt_of_lt_of_le (Nat.le_of_ble_eq_true rfl : 135 < 149) hs.1
theorem ly136 (hs : ShM n Ly P) : Ly 136 = .inr (0, 367) := (hs.2.1 2 (Nat.le_of_ble_eq_true rfl)).trans rfl
theorem lt136 (hs : ShM n Ly P) : 136 < n := Nat.lt_of_lt_of_le (Nat.le_of_ble_eq_true rfl : 136 < 149) hs.1
theorem ly137 (hs : ShM n Ly P) : Ly 137 = .inr (0, 1835) := (hs.2.1 3 (Nat.le_of_ble_eq_true rfl)).trans rfl
theorem lt137 (hs : ShM n Ly P) : 137 < n := Nat.lt_of_lt_of_le (Nat.le_of_ble_eq_true rfl : 137 < 149) hs.1
theorem ly138 (hs : ShM n Ly P) : Ly 138 = .inr (0, 734) := (hs.2.1 4 (Nat.le_of_ble_eq_true rfl)).trans rfl
theorem lt138 (hs : ShM n Ly P) : 138 < n := Nat.lt_of_lt_of_le (Nat.le_of_ble_eq_true rfl : 138 < 149) hs.1
theorem ly139 (hs : ShM n Ly P) : Ly 139 = .inr (2, 2) := (hs.2.1 5 (Nat.le_of_ble_eq_true rfl)).trans rfl
theorem lt139 (hs : ShM n Ly P) : 139 < n := Nat.lt_of_lt_of_le (Nat.le_of_ble_eq_true rfl : 139 < 149) hs.1
theorem ly140 (hs : ShM n Ly P) : Ly 140 = .inr (0, 256) := (hs.2.1 6 (Nat.le_of_ble_eq_true rfl)).trans rfl
theorem lt140 (hs : ShM n Ly P) : 140 < n := Nat.lt_of_lt_of_le (Nat.le_of_ble_eq_true rfl : 140 < 149) hs.1
theorem ly141 (hs : ShM n Ly P) : Ly 141 = .inr (0, 128) := (hs.2.1 7 (Nat.le_of_ble_eq_true rfl)).trans rfl
theorem lt141 (hs : ShM n Ly P) : 141 < n := Nat.lt_of_lt_of_le (Nat.le_of_ble_eq_true rfl : 141 < 149) hs.1
theorem ly142 (hs : ShM n Ly P) : Ly 142 = .inr (0, 128) := (hs.2.1 8 (Nat.le_of_ble_eq_true rfl)).trans rfl
theorem lt142 (hs : ShM n Ly P) : 142 < n := Nat.lt_of_lt_of_le (Nat.le_of_ble_eq_true rfl : 142 < 149) hs.1
theorem ly143 (hs : ShM n Ly P) : Ly 143 = .inr (0, 128) := (hs.2.1 9 (Nat.le_of_ble_eq_true rfl)).trans rfl
theorem lt143 (hs : ShM n Ly P) : 143 < n := Nat.lt_of_lt_of_le (Nat.le_of_ble_eq_true rfl : 143 < 149) hs.1
theorem ly144 (hs : ShM n Ly P) : Ly 144 = .inr (0, 128) := (hs.2.1 10 (Nat.le_of_ble_eq_true rfl)).trans rfl
theorem lt144 (hs : ShM n Ly P) : 144 < n := Nat.lt_of_lt_of_le (Nat.le_of_ble_eq_true rfl : 144 < 149) hs.1
theorem ly145 (hs : ShM n Ly P) : Ly 145 = .inr (0, 256) := (hs.2.1 11 (Nat.le_of_ble_eq_true rfl)).trans rfl
theorem lt145 (hs : ShM n Ly P) : 145 < n := Nat.lt_of_lt_of_le (Nat.le_of_ble_eq_true rfl : 145 < 149) hs.1
theorem ly146 (hs : ShM n Ly P) : Ly 146 = .inr (1, 40) := (hs.2.1 12 (Nat.le_of_ble_eq_true rfl)).trans rfl
theorem lt146 (hs : ShM n Ly P) : 146 < n := Nat.lt_of_lt_of_le (Nat.le_of_ble_eq_true rfl : 146 < 149) hs.1
theorem ly147 (hs : ShM n Ly P) : Ly 147 = .inr (1, 40) := (hs.2.1 13 (Nat.le_of_ble_eq_true rfl)).trans rfl
theorem lt147 (hs : ShM n Ly P) : 147 < n := Nat.lt_of_lt_of_le (Nat.le_of_ble_eq_true rfl : 147 < 149) hs.1
theorem ly148 (hs : ShM n Ly P) : Ly 148 = .inr (0, 40) := (hs.2.1 14 (Nat.le_of_ble_eq_true rfl)).trans rfl
theorem lt148 (hs : ShM n Ly P) : 148 < n := Nat.lt_of_lt_of_le (Nat.le_of_ble_eq_true rfl : 148 < 149) hs.1
theorem p0_0 (hs : ShC n Ly P) : P 0 0 = some 1 := hs.2.2.1.1
theorem p0_1 (hs : ShC n Ly P) : P 0 1 = some 21 := hs.2.2.1.2.1
theorem p0_2 (hs : ShC n Ly P) : P 0 2 = some 88 := hs.2.2.1.2.2.1
theorem p0_3 (hs : ShC n Ly P) : P 0 3 = some 92 := hs.2.2.1.2.2.2.1
theorem p0_4 (hs : ShC n Ly P) : P 0 4 = some 121 := hs.2.2.1.2.2.2.2.1
theorem p1_0 (hs : ShC n Ly P) : P 1 0 = some 2 := hs.2.2.1.2.2.2.2.2.1
theorem p1_1 (hs : ShC n Ly P) : P 1 1 = some 15 := hs.2.2.1.2.2.2.2.2.2.1
theorem p15_0 (hs : ShC n Ly P) : P 15 0 = some 16 := hs.2.2.1.2.2.2.2.2.2.2.1
theorem p15_1 (hs : ShC n Ly P) : P 15 1 = some 17 := hs.2.2.1.2.2.2.2.2.2.2.2.1
theorem p15_2 (hs : ShC n Ly P) : P 15 2 = some 18 := hs.2.2.1.2.2.2.2.2.2.2.2.2.1
theorem p15_3 (hs : ShC n Ly P) : P 15 3 = some 19 := hs.2.2.1.2.2.2.2.2.2.2.2.2.2.1
theorem p15_4 (hs : ShC n Ly P) : P 15 4 = some 20 := hs.2.2.1.2.2.2.2.2.2.2.2.2.2.2.1
theorem p21_0 (hs : ShC n Ly P) : P 21 0 = some 22 := hs.2.2.1.2.2.2.2.2.2.2.2.2.2.2.2.1
theorem p88_0 (hs : ShC n Ly P) : P 88 0 = some 89 := hs.2.2.1.2.2.2.2.2.2.2.2.2.2.2.2.2.1
theorem p88_2 (hs : ShC n Ly P) : P 88 2 = some 90 := hs.2.2.1.2.2.2.2.2.2.2.2.2.2.2.2.2.2.1
theorem p88_3 (hs : ShC n Ly P) : P 88 3 = some 91 := hs.2.2.1.2.2.2.2.2.2.2.2.2.2.2.2.2.2.2.1
theorem p92_0 (hs : ShC n Ly P) : P 92 0 = some 93 := hs.2.2.1.2.2.2.2.2.2.2.2.2.2.2.2.2.2.2.2.1
theorem p92_1 (hs : ShC n Ly P) : P 92 1 = some 107 := hs.2.2.1.2.2.2.2.2.2.2.2.2.2.2.2.2.2.2.2.2.1
theorem p93_0 (hs : ShC n Ly P) : P 93 0 = some 94 := hs.2.2.1.2.2.2.2.2.2.2.2.2.2.2.2.2.2.2.2.2.2.1
theorem p107_0 (hs : ShC n Ly P) : P 107 0 = some 108 := hs.2.2.1.2.2.2.2.2.2.2.2.2.2.2.2.2.2.2.2.2.2.2
theorem p134_0 (hs : ShM n Ly P) : P 134 0 = some 135 := hs.2.2.1
theorem p134_1 (hs : ShM n Ly P) : P 134 1 = some 136 := hs.2.2.2.1
theorem p134_2 (hs : ShM n Ly P) : P 134 2 = some 137 := hs.2.2.2.2.1
theorem p134_4 (hs : ShM n Ly P) : P 134 4 = some 138 := hs.2.2.2.2.2.1
theorem p134_5 (hs : ShM n Ly P) : P 134 5 = some 139 := hs.2.2.2.2.2.2.1
theorem p134_6 (hs : ShM n Ly P) : P 134 6 = some 140 := hs.2.2.2.2.2.2.2.1
theorem p134_8 (hs : ShM n Ly P) : P 134 8 = some 141 := hs.2.2.2.2.2.2.2.2.1
theorem p134_9 (hs : ShM n Ly P) : P 134 9 = some 142 := hs.2.2.2.2.2.2.2.2.2.1
theorem p134_10 (hs : ShM n Ly P) : P 134 10 = some 143 := hs.2.2.2.2.2.2.2.2.2.2.1
theorem p134_11 (hs : ShM n Ly P) : P 134 11 = some 144 := hs.2.2.2.2.2.2.2.2.2.2.2.1
theorem p134_12 (hs : ShM n Ly P) : P 134 12 = some 145 := hs.2.2.2.2.2.2.2.2.2.2.2.2.1
theorem p134_14 (hs : ShM n Ly P) : P 134 14 = some 146 := hs.2.2.2.2.2.2.2.2.2.2.2.2.2.1
theorem p134_16 (hs : ShM n Ly P) : P 134 16 = some 147 := hs.2.2.2.2.2.2.2.2.2.2.2.2.2.2.1
theorem p134_17 (hs : ShM n Ly P) : P 134 17 = some 148 := hs.2.2.2.2.2.2.2.2.2.2.2.2.2.2.2
theorem lyS (hs : ShC n Ly P) {b : Nat} (h : SB b) : Ly (b) = .inl 4 := by
  rcases h with rfl | rfl | rfl | rfl | rfl | rfl | rfl | rfl | rfl <;> exact (hs.2.1 _ (Nat.le_of_ble_eq_true rfl)).trans rfl
theorem lyS1 (hs : ShC n Ly P) {b : Nat} (h : SB b) : Ly (b + 1) = .inr (0, 256) := by
  rcases h with rfl | rfl | rfl | rfl | rfl | rfl | rfl | rfl | rfl <;> exact (hs.2.1 _ (Nat.le_of_ble_eq_true rfl)).trans rfl
theorem lyS2 (hs : ShC n Ly P) {b : Nat} (h : SB b) : Ly (b + 2) = .inr (3, 8) := by
  rcases h with rfl | rfl | rfl | rfl | rfl | rfl | rfl | rfl | rfl <;> exact (hs.2.1 _ (Nat.le_of_ble_eq_true rfl)).trans rfl
theorem lyS3 (hs : ShC n Ly P) {b : Nat} (h : SB b) : Ly (b + 3) = .inl 5 := by
  rcases h with rfl | rfl | rfl | rfl | rfl | rfl | rfl | rfl | rfl <;> exact (hs.2.1 _ (Nat.le_of_ble_eq_true rfl)).trans rfl
theorem lyS4 (hs : ShC n Ly P) {b : Nat} (h : SB b) : Ly (b + 4) = .inr (0, 30) := by
  rcases h with rfl | rfl | rfl | rfl | rfl | rfl | rfl | rfl | rfl <;> exact (hs.2.1 _ (Nat.le_of_ble_eq_true rfl)).trans rfl
theorem ltS (hs : ShC n Ly P) {b k : Nat} (h : SB b) (hk : k ≤ 12) : b + k < n := by
  have := hs.1
  unfold SB at h
  omega
theorem ltSb (hs : ShC n Ly P) {b : Nat} (h : SB b) : b < n := ltS (k := 0) hs h (by omega)
theorem ltS1 (hs : ShC n Ly P) {b : Nat} (h : SB b) : b + 1 < n := ltS (k := 1) hs h (by omega)
theorem ltS2 (hs : ShC n Ly P) {b : Nat} (h : SB b) : b + 2 < n := ltS (k := 2) hs h (by omega)
theorem ltS3 (hs : ShC n Ly P) {b : Nat} (h : SB b) : b + 3 < n := ltS (k := 3) hs h (by omega)
theorem ltS4 (hs : ShC n Ly P) {b : Nat} (h : SB b) : b + 4 < n := ltS (k := 4) hs h (by omega)
theorem lyW (hs : ShC n Ly P) {w : Nat} (h : WB w) : Ly w = .inl 6 := by
  obtain ⟨b, j, hb, hj, rfl⟩ := h
  have hj : j = 0 ∨ j = 1 ∨ j = 2 ∨ j = 3 ∨ j = 4 ∨ j = 5 ∨ j = 6 ∨ j = 7 := by omega
  rcases hb with rfl | rfl | rfl | rfl | rfl | rfl | rfl | rfl | rfl <;> rcases hj with rfl | rfl | rfl | rfl | rfl | rfl | rfl | rfl <;> exact (hs.2.1 _ (Nat.le_of_ble_eq_true rfl)).trans rfl
theorem ltW (hs : ShC n Ly P) {w : Nat} (h : WB w) : w < n := by
  obtain ⟨b, j, hb, hj, rfl⟩ := h
  have := ltS (k := 5 + j) hs hb (by omega)
  omega
theorem lyT (hs : ShC n Ly P) {t : Nat} (h : TB t) : Ly t = .inl 5 := by
  obtain ⟨b, hb, rfl⟩ := h
  exact lyS3 hs hb
theorem ltT (hs : ShC n Ly P) {t : Nat} (h : TB t) : t < n := by
  obtain ⟨b, hb, rfl⟩ := h
  exact ltS3 hs hb
theorem lyT1 (hs : ShC n Ly P) {t : Nat} (h : TB t) : Ly (t + 1) = .inr (0, 30) := by
  obtain ⟨b, hb, rfl⟩ := h
  exact lyS4 hs hb
theorem ltT1 (hs : ShC n Ly P) {t : Nat} (h : TB t) : t + 1 < n := by
  obtain ⟨b, hb, rfl⟩ := h
  exact ltS4 hs hb
theorem lyA (hs : ShC n Ly P) {t : Nat} (h : AB t) : Ly t = .inr (0, 256) := by
  obtain ⟨b, hb, rfl⟩ := h
  exact lyS1 hs hb
theorem ltA (hs : ShC n Ly P) {t : Nat} (h : AB t) : t < n := by
  obtain ⟨b, hb, rfl⟩ := h
  exact ltS1 hs hb
theorem lyL (hs : ShC n Ly P) {a : Nat} (h : LB a) : Ly a = .inl 3 := by
  rcases h with rfl | rfl <;> exact (hs.2.1 _ (Nat.le_of_ble_eq_true rfl)).trans rfl
theorem ltL (hs : ShC n Ly P) {a : Nat} (h : LB a) : a < n := by
  have := hs.1
  unfold LB at h
  omega
theorem LB.sb {a : Nat} (h : LB a) : SB (a + 1) := by
  unfold LB at h
  unfold SB
  omega
theorem pS2 (hs : ShC n Ly P) {b : Nat} (h : SB b) : P b 2 = some (b + 1) := (hs.2.2.2.1 b h).1
theorem pS3 (hs : ShC n Ly P) {b : Nat} (h : SB b) : P b 3 = some (b + 2) := (hs.2.2.2.1 b h).2.1
theorem pS5 (hs : ShC n Ly P) {b : Nat} (h : SB b) : P b 5 = some (b + 3) := (hs.2.2.2.1 b h).2.2.1
theorem pT0 (hs : ShC n Ly P) {t : Nat} (h : TB t) : P t 0 = some (t + 1) := by
  obtain ⟨b, hb, rfl⟩ := h
  exact (hs.2.2.2.1 b hb).2.2.2.1
theorem pSW (hs : ShC n Ly P) {b j : Nat} (h : SB b) (hj : j < 8) : P (b + 2) j = some (b + 5 + j) := (hs.2.2.2.1 b h).2.2.2.2 j hj
theorem pL0 (hs : ShC n Ly P) {a : Nat} (h : LB a) : P a 0 = some (a + 1) := by
  rcases h with rfl | rfl
  · exact p93_0 hs
  · exact p107_0 hs
theorem pSl (hs : ShC n Ly P) {j : Nat} (h : j < 2) : P 92 j = some (93 + 14 * j) := by
  rcases (show j = 0 ∨ j = 1 by omega) with rfl | rfl
  · exact p92_0 hs
  · exact p92_1 hs
theorem lbSl {j : Nat} (h : j < 2) : LB (93 + 14 * j) := by
  unfold LB
  omega
theorem pH (hs : ShC n Ly P) {i : Nat} (h : i < 5) : P 22 i = some (hq P i) := by
  obtain ⟨b, -, hb⟩ := hs.2.2.2.2 i h
  unfold hq
  rw [hb]
  rfl
theorem hbH (hs : ShC n Ly P) {i : Nat} (h : i < 5) : HB (hq P i) := by
  obtain ⟨b, h1, hb⟩ := hs.2.2.2.2 i h
  unfold hq
  rw [hb]
  exact h1
theorem shC_up (hs : ShC n Ly P) {i v : Nat} (hv : HB v) : ShC n Ly (upP P 22 i (some v)) := by
  obtain ⟨h1, h2, h3, h4, h5⟩ := hs
  have go : ∀ a, a ≠ 22 → upP P 22 i (some v) a = P a := fun a ha => upP_n ha
  refine ⟨h1, h2, ?_, fun b hb => ?_, fun j hj => ?_⟩
  · simp only [go _ (show 0 ≠ 22 by decide), go _ (show 1 ≠ 22 by decide), go _ (show 15 ≠ 22 by decide), go _ (show 21 ≠ 22 by decide), go _ (show 88 ≠ 22 by decide), go _ (show 92 ≠ 22 by decide), go _ (show 93 ≠ 22 by decide), go _ (show 107 ≠ 22 by decide)]
    exact h3
  · have e1 : b ≠ 22 := by unfold SB at hb; omega
    have e2 : b + 3 ≠ 22 := by unfold SB at hb; omega
    have e3 : b + 2 ≠ 22 := by unfold SB at hb; omega
    rw [go _ e1, go _ e2, go _ e3]
    exact h4 b hb
  · by_cases e : j = i
    · subst e
      exact ⟨v, hv, by simp [upP]⟩
    · obtain ⟨b, hb1, hb2⟩ := h5 j hj
      exact ⟨b, hb1, by simp [upP, e, hb2]⟩
theorem shM_up (hs : ShM n Ly P) {i : Nat} {v : Option Nat} : ShM n Ly (upP P 22 i v) := by
  obtain ⟨h1, h2, h3⟩ := hs
  refine ⟨h1, h2, ?_⟩
  unfold PM at h3 ⊢
  rw [upP_n (show 134 ≠ 22 by decide)]
  exact h3
end SH
def PoD (r0 : Option AV) (n0 : Nat) (Ly0 : LL) (I0 : II) (P0 : PP) : PQ := fun r n Ly I P => r = r0 ∧ n = n0 ∧ Ly = Ly0 ∧ I = I0 ∧ P = P0
section CD
variable {X : Cx} {own : String} {cc : ByteArray} {nL d n pc : Nat} {Ly : LL} {lv : List (Option AV)} {st st' : List AV} {I I1 : II} {P P1 : PP} {idx : Nat} {md : MD} {av : List AV} {r0 : Option AV}
theorem s_cV {b ci : Nat} (F : Fx X own cc nL d 0 0) (hd : decode cc pc = .ok (.invokevirtual idx, 3)) (hC : ∀ (l : Launch) (s0 : Nat) (D : va_G) (DA : Nat → ClassId), Ct l s0 D DA md (.inr (some b) :: av) 0 0 n Ly I P (PoD r0 n Ly I1 P1)) (hk : LV own idx md) (hm : MDok md av.length) (hci : ci < 10) (hl : Ly b = .inl ci) (hb : b < n) (hcls : md.1.cls = RF ci) (hst : st' = av.reverse ++ .inr (some b) :: st) (hlen : st.length ≤ 8) (hdp : md.2.2.2.2 + 1 ≤ d) (kk : G X nL 0 0 n Ly (pc + 3) lv (r0.toList ++ st) I1 P1) : G X nL 0 0 n Ly pc lv st' I P :=
  s_callV F hd hC hk hm hci hl hb hcls hst hlen hdp (Nat.le_refl _) (Nat.le_refl _) (fun _ _ _ _ _ h => h.2.1) (fun r n' Ly' I' P' h => by obtain ⟨rfl, rfl, rfl, rfl, rfl⟩ := h; exact kk)
theorem s_cS (F : Fx X own cc nL d 0 0) (hd : decode cc pc = .ok (.invokestatic idx, 3)) (hC : ∀ (l : Launch) (s0 : Nat) (D : va_G) (DA : Nat → ClassId), Ct l s0 D DA md av 0 0 n Ly I P (PoD r0 n Ly I1 P1)) (hk : LT own idx md) (hm : MDok md av.length) (hst : st' = av.reverse ++ st) (hlen : st.length ≤ 8) (hdp : md.2.2.2.2 + 1 ≤ d) (kk : G X nL 0 0 n Ly (pc + 3) lv (r0.toList ++ st) I1 P1) : G X nL 0 0 n Ly pc lv st' I P :=
  s_callS F hd hC hk hm hst hlen hdp (Nat.le_refl _) (Nat.le_refl _) (fun _ _ _ _ _ h => h.2.1) (fun r n' Ly' I' P' h => by obtain ⟨rfl, rfl, rfl, rfl, rfl⟩ := h; exact kk)
theorem s_cSN {host : String} (F : Fx X own cc nL d 0 0) (hd : decode cc pc = .ok (.invokestatic idx, 3)) (hC : ∀ (l : Launch) (s0 : Nat) (D : va_G) (DA : Nat → ClassId), Ct l s0 D DA md av 0 0 n Ly I P (PoD r0 n Ly I1 P1)) (hk : (∀ U, Nst U → va_Nw (.methodLinkNest own idx md.1 host) U) ∧ Cond.static md.1 ∈ tg) (hm : MDok md av.length) (hst : st' = av.reverse ++ st) (hlen : st.length ≤ 8) (hdp : md.2.2.2.2 + 1 ≤ d) (kk : G X nL 0 0 n Ly (pc + 3) lv (r0.toList ++ st) I1 P1) : G X nL 0 0 n Ly pc lv st' I P :=
  s_callSN F hd hC hk hm hst hlen hdp (Nat.le_refl _) (Nat.le_refl _) (fun _ _ _ _ _ h => h.2.1) (fun r n' Ly' I' P' h => by obtain ⟨rfl, rfl, rfl, rfl, rfl⟩ := h; exact kk)
theorem s_rem (F : Fx X own cc nL d 0 0) {x y : Int32} (hd : decode cc pc = .ok (.irem, 1)) (hy : ¬ y = 0) (kk : G X nL 0 0 n Ly (pc + 1) lv (.inl (rm x y) :: st) I P) : G X nL 0 0 n Ly pc lv (.inl y :: .inl x :: st) I P := s_irem F hd hy kk
theorem s_c16 (F : Fx X own cc nL d 0 0) {x : Int32} (hd : decode cc pc = .ok (.i2c, 1)) (kk : G X nL 0 0 n Ly (pc + 1) lv (.inl (c16 x) :: st) I P) : G X nL 0 0 n Ly pc lv (.inl x :: st) I P := s_i2c F hd kk
theorem s_inc (F : Fx X own cc nL d 0 0) {k : Nat} {j : Int} {x c : Int32} (hd : decode cc pc = .ok (.iinc k j, 3)) (hl : lv[k]? = some (some (.inl x))) (hk : k < nL) (hc : Int32.ofInt j = c) (kk : G X nL 0 0 n Ly (pc + 3) (lv.set k (some (.inl (x + c)))) st I P) : G X nL 0 0 n Ly pc lv st I P := s_iinc F hd hl hk (by rw [hc]) kk
theorem s_swC (F : Fx X own cc nL d 0 0) {dflt lo hi : Int} {offs : Array Int} {len : Nat} {x c : Int32} {off : Int} {tgt : Nat} (hd : decode cc pc = .ok (.tableswitch dflt lo hi offs, len)) (h : x = c) (hc : (¬ c.toInt < lo ∧ ¬ hi < c.toInt) ∧ offs[(c.toInt - lo).toNat]? = some off ∧ (pc : Int) + off = (tgt : Int)) (kk : G X nL 0 0 n Ly tgt lv st I P) : G X nL 0 0 n Ly pc lv (.inl x :: st) I P := by
  subst h
  exact s_swIn F hd hc.1.1 hc.1.2 hc.2.1 hc.2.2 kk
end CD
end
section
def mFill : MD := (yJ7_fill_53178, cJ7_fill_53178, 4, none, 1)
theorem okFill : MDok mFill 2 := ⟨tg_in 50 (by decide +kernel) (by decide +kernel), tg_in 355 (by decide +kernel) (by decide +kernel), by decide +kernel, by decide⟩
def mX8_init : MD := (yX8_init, cX8_init, 2, none, 4)
theorem okX8_init : MDok mX8_init 0 := ⟨tg_in 39 (by decide +kernel) (by decide +kernel), tg_in 56 (by decide +kernel) (by decide +kernel), by decide +kernel, by decide⟩
def mX8_reset : MD := (yX8_reset, cX8_reset, 3, (some .int), 4)
theorem okX8_reset : MDok mX8_reset 2 := ⟨tg_in 39 (by decide +kernel) (by decide +kernel), tg_in 313 (by decide +kernel) (by decide +kernel), by decide +kernel, by decide⟩
def mX8_put : MD := (yX8_put, cX8_put, 6, (some .int), 4)
theorem okX8_put : MDok mX8_put 3 := ⟨tg_in 39 (by decide +kernel) (by decide +kernel), tg_in 363 (by decide +kernel) (by decide +kernel), by decide +kernel, by decide⟩
def mX8_strew : MD := (yX8_strew, cX8_strew, 5, (some .int), 4)
theorem okX8_strew : MDok mX8_strew 3 := ⟨tg_in 39 (by decide +kernel) (by decide +kernel), tg_in 387 (by decide +kernel) (by decide +kernel), by decide +kernel, by decide⟩
def mX8_addWalker : MD := (yX8_addWalker, cX8_addWalker, 8, (some .int), 4)
theorem okX8_addWalker : MDok mX8_addWalker 5 := ⟨tg_in 39 (by decide +kernel) (by decide +kernel), tg_in 398 (by decide +kernel) (by decide +kernel), by decide +kernel, by decide⟩
def mX8_setSort : MD := (yX8_setSort, cX8_setSort, 5, (some .int), 4)
theorem okX8_setSort : MDok mX8_setSort 2 := ⟨tg_in 39 (by decide +kernel) (by decide +kernel), tg_in 410 (by decide +kernel) (by decide +kernel), by decide +kernel, by decide⟩
def mX8_empty : MD := (yX8_empty, cX8_empty, 3, (some .int), 4)
theorem okX8_empty : MDok mX8_empty 1 := ⟨tg_in 39 (by decide +kernel) (by decide +kernel), tg_in 414 (by decide +kernel) (by decide +kernel), by decide +kernel, by decide⟩
def mX8_addTurn : MD := (yX8_addTurn, cX8_addTurn, 2, (some .int), 4)
theorem okX8_addTurn : MDok mX8_addTurn 1 := ⟨tg_in 39 (by decide +kernel) (by decide +kernel), tg_in 431 (by decide +kernel) (by decide +kernel), by decide +kernel, by decide⟩
def mX8_clearTurns : MD := (yX8_clearTurns, cX8_clearTurns, 2, (some .int), 4)
theorem okX8_clearTurns : MDok mX8_clearTurns 0 := ⟨tg_in 39 (by decide +kernel) (by decide +kernel), tg_in 439 (by decide +kernel) (by decide +kernel), by decide +kernel, by decide⟩
def mX8_walk : MD := (yX8_walk, cX8_walk, 5, (some .int), 6)
theorem okX8_walk : MDok mX8_walk 2 := ⟨tg_in 39 (by decide +kernel) (by decide +kernel), tg_in 447 (by decide +kernel) (by decide +kernel), by decide +kernel, by decide⟩
def mX8_rounds : MD := (yX8_rounds, cX8_rounds, 2, (some .int), 7)
theorem okX8_rounds : MDok mX8_rounds 1 := ⟨tg_in 39 (by decide +kernel) (by decide +kernel), tg_in 515 (by decide +kernel) (by decide +kernel), by decide +kernel, by decide⟩
def mX8_type : MD := (yX8_type, cX8_type, 2, (some .int), 2)
theorem okX8_type : MDok mX8_type 1 := ⟨tg_in 39 (by decide +kernel) (by decide +kernel), tg_in 526 (by decide +kernel) (by decide +kernel), by decide +kernel, by decide⟩
def mX8_clearText : MD := (yX8_clearText, cX8_clearText, 2, (some .int), 1)
theorem okX8_clearText : MDok mX8_clearText 0 := ⟨tg_in 39 (by decide +kernel) (by decide +kernel), tg_in 534 (by decide +kernel) (by decide +kernel), by decide +kernel, by decide⟩
def mX8_run : MD := (yX8_run, cX8_run, 7, (some .int), 7)
theorem okX8_run : MDok mX8_run 0 := ⟨tg_in 39 (by decide +kernel) (by decide +kernel), tg_in 538 (by decide +kernel) (by decide +kernel), by decide +kernel, by decide⟩
def mX8_undo : MD := (yX8_undo, cX8_undo, 2, (some .int), 4)
theorem okX8_undo : MDok mX8_undo 0 := ⟨tg_in 39 (by decide +kernel) (by decide +kernel), tg_in 586 (by decide +kernel) (by decide +kernel), by decide +kernel, by decide⟩
def mX8_keep : MD := (yX8_keep, cX8_keep, 3, (some .int), 3)
theorem okX8_keep : MDok mX8_keep 1 := ⟨tg_in 39 (by decide +kernel) (by decide +kernel), tg_in 599 (by decide +kernel) (by decide +kernel), by decide +kernel, by decide⟩
def mX8_restore : MD := (yX8_restore, cX8_restore, 3, (some .int), 4)
theorem okX8_restore : MDok mX8_restore 1 := ⟨tg_in 39 (by decide +kernel) (by decide +kernel), tg_in 612 (by decide +kernel) (by decide +kernel), by decide +kernel, by decide⟩
def mX8_chips : MD := (yX8_chips, cX8_chips, 4, (some .int), 3)
theorem okX8_chips : MDok mX8_chips 2 := ⟨tg_in 39 (by decide +kernel) (by decide +kernel), tg_in 616 (by decide +kernel) (by decide +kernel), by decide +kernel, by decide⟩
def mX8_walker : MD := (yX8_walker, cX8_walker, 4, (some .int), 2)
theorem okX8_walker : MDok mX8_walker 2 := ⟨tg_in 39 (by decide +kernel) (by decide +kernel), tg_in 620 (by decide +kernel) (by decide +kernel), by decide +kernel, by decide⟩
def mX8_heap : MD := (yX8_heap, cX8_heap, 5, (some .int), 4)
theorem okX8_heap : MDok mX8_heap 2 := ⟨tg_in 39 (by decide +kernel) (by decide +kernel), tg_in 624 (by decide +kernel) (by decide +kernel), by decide +kernel, by decide⟩
def mX8_heapOf : MD := (yX8_heapOf, cX8_heapOf, 4, (some .int), 4)
theorem okX8_heapOf : MDok mX8_heapOf 2 := ⟨tg_in 39 (by decide +kernel) (by decide +kernel), tg_in 641 (by decide +kernel) (by decide +kernel), by decide +kernel, by decide⟩
def mX8_roundsUntil : MD := (yX8_roundsUntil, cX8_roundsUntil, 4, (some .int), 7)
theorem okX8_roundsUntil : MDok mX8_roundsUntil 1 := ⟨tg_in 39 (by decide +kernel) (by decide +kernel), tg_in 647 (by decide +kernel) (by decide +kernel), by decide +kernel, by decide⟩
def mX8_turn : MD := (yX8_turn, cX8_turn, 3, (some .int), 1)
theorem okX8_turn : MDok mX8_turn 1 := ⟨tg_in 39 (by decide +kernel) (by decide +kernel), tg_in 651 (by decide +kernel) (by decide +kernel), by decide +kernel, by decide⟩
def mX8_count : MD := (yX8_count, cX8_count, 3, (some .int), 4)
theorem okX8_count : MDok mX8_count 1 := ⟨tg_in 39 (by decide +kernel) (by decide +kernel), tg_in 655 (by decide +kernel) (by decide +kernel), by decide +kernel, by decide⟩
def mX8_isBetween : MD := (yX8_isBetween, cX8_isBetween, 3, (some .boolean), 1)
theorem okX8_isBetween : MDok mX8_isBetween 3 := ⟨tg_in 39 (by decide +kernel) (by decide +kernel), tg_in 316 (by decide +kernel) (by decide +kernel), by decide +kernel, by decide⟩
def mX8_isSort : MD := (yX8_isSort, cX8_isSort, 1, (some .boolean), 2)
theorem okX8_isSort : MDok mX8_isSort 1 := ⟨tg_in 39 (by decide +kernel) (by decide +kernel), tg_in 401 (by decide +kernel) (by decide +kernel), by decide +kernel, by decide⟩
def mX8_slotAt : MD := (yX8_slotAt, cX8_slotAt, 2, (some (.object "ChipPilers$Slot")), 1)
theorem okX8_slotAt : MDok mX8_slotAt 1 := ⟨tg_in 39 (by decide +kernel) (by decide +kernel), tg_in 603 (by decide +kernel) (by decide +kernel), by decide +kernel, by decide⟩
def mX9_init : MD := (yX9_init, cX9_init, 1, none, 1)
theorem okX9_init : MDok mX9_init 0 := ⟨tg_in 48 (by decide +kernel) (by decide +kernel), tg_in 664 (by decide +kernel) (by decide +kernel), by decide +kernel, by decide⟩
def mX9_in : MD := (yX9_in, cX9_in, 3, (some .boolean), 1)
theorem okX9_in : MDok mX9_in 3 := ⟨tg_in 48 (by decide +kernel) (by decide +kernel), tg_in 732 (by decide +kernel) (by decide +kernel), by decide +kernel, by decide⟩
def mX9_lesser : MD := (yX9_lesser, cX9_lesser, 2, (some .int), 1)
theorem okX9_lesser : MDok mX9_lesser 2 := ⟨tg_in 48 (by decide +kernel) (by decide +kernel), tg_in 843 (by decide +kernel) (by decide +kernel), by decide +kernel, by decide⟩
def mX9_begin : MD := (yX9_begin, cX9_begin, 2, none, 1)
theorem okX9_begin : MDok mX9_begin 0 := ⟨tg_in 48 (by decide +kernel) (by decide +kernel), tg_in 744 (by decide +kernel) (by decide +kernel), by decide +kernel, by decide⟩
def mX9_goBack : MD := (yX9_goBack, cX9_goBack, 2, none, 1)
theorem okX9_goBack : MDok mX9_goBack 0 := ⟨tg_in 48 (by decide +kernel) (by decide +kernel), tg_in 867 (by decide +kernel) (by decide +kernel), by decide +kernel, by decide⟩
def mX9_done : MD := (yX9_done, cX9_done, 3, (some .int), 1)
theorem okX9_done : MDok mX9_done 1 := ⟨tg_in 48 (by decide +kernel) (by decide +kernel), tg_in 748 (by decide +kernel) (by decide +kernel), by decide +kernel, by decide⟩
def mX9_undo : MD := (yX9_undo, cX9_undo, 2, (some .int), 1)
theorem okX9_undo : MDok mX9_undo 0 := ⟨tg_in 48 (by decide +kernel) (by decide +kernel), tg_in 725 (by decide +kernel) (by decide +kernel), by decide +kernel, by decide⟩
def mX9_allChips : MD := (yX9_allChips, cX9_allChips, 3, (some .int), 1)
theorem okX9_allChips : MDok mX9_allChips 0 := ⟨tg_in 48 (by decide +kernel) (by decide +kernel), tg_in 736 (by decide +kernel) (by decide +kernel), by decide +kernel, by decide⟩
def mX9_keep : MD := (yX9_keep, cX9_keep, 3, (some .int), 2)
theorem okX9_keep : MDok mX9_keep 1 := ⟨tg_in 48 (by decide +kernel) (by decide +kernel), tg_in 729 (by decide +kernel) (by decide +kernel), by decide +kernel, by decide⟩
def mX9_restore : MD := (yX9_restore, cX9_restore, 3, (some .int), 2)
theorem okX9_restore : MDok mX9_restore 1 := ⟨tg_in 48 (by decide +kernel) (by decide +kernel), tg_in 740 (by decide +kernel) (by decide +kernel), by decide +kernel, by decide⟩
def mX9_isCell : MD := (yX9_isCell, cX9_isCell, 3, (some .boolean), 2)
theorem okX9_isCell : MDok mX9_isCell 2 := ⟨tg_in 48 (by decide +kernel) (by decide +kernel), tg_in 760 (by decide +kernel) (by decide +kernel), by decide +kernel, by decide⟩
def mX9_of : MD := (yX9_of, cX9_of, 3, (some .int), 1)
theorem okX9_of : MDok mX9_of 2 := ⟨tg_in 48 (by decide +kernel) (by decide +kernel), tg_in 784 (by decide +kernel) (by decide +kernel), by decide +kernel, by decide⟩
def mX9_lay : MD := (yX9_lay, cX9_lay, 4, none, 1)
theorem okX9_lay : MDok mX9_lay 3 := ⟨tg_in 48 (by decide +kernel) (by decide +kernel), tg_in 772 (by decide +kernel) (by decide +kernel), by decide +kernel, by decide⟩
def mX9_noWalker : MD := (yX9_noWalker, cX9_noWalker, 2, (some .boolean), 2)
theorem okX9_noWalker : MDok mX9_noWalker 1 := ⟨tg_in 48 (by decide +kernel) (by decide +kernel), tg_in 780 (by decide +kernel) (by decide +kernel), by decide +kernel, by decide⟩
def mX9_reset : MD := (yX9_reset, cX9_reset, 4, (some .int), 2)
theorem okX9_reset : MDok mX9_reset 2 := ⟨tg_in 48 (by decide +kernel) (by decide +kernel), tg_in 752 (by decide +kernel) (by decide +kernel), by decide +kernel, by decide⟩
def mX9_put : MD := (yX9_put, cX9_put, 5, (some .int), 3)
theorem okX9_put : MDok mX9_put 3 := ⟨tg_in 48 (by decide +kernel) (by decide +kernel), tg_in 756 (by decide +kernel) (by decide +kernel), by decide +kernel, by decide⟩
def mX9_strew : MD := (yX9_strew, cX9_strew, 9, (some .int), 2)
theorem okX9_strew : MDok mX9_strew 3 := ⟨tg_in 48 (by decide +kernel) (by decide +kernel), tg_in 764 (by decide +kernel) (by decide +kernel), by decide +kernel, by decide⟩
def mX9_stepped : MD := (yX9_stepped, cX9_stepped, 5, (some .int), 3)
theorem okX9_stepped : MDok mX9_stepped 2 := ⟨tg_in 48 (by decide +kernel) (by decide +kernel), tg_in 820 (by decide +kernel) (by decide +kernel), by decide +kernel, by decide⟩
def mX9_spread : MD := (yX9_spread, cX9_spread, 8, none, 4)
theorem okX9_spread : MDok mX9_spread 1 := ⟨tg_in 48 (by decide +kernel) (by decide +kernel), tg_in 832 (by decide +kernel) (by decide +kernel), by decide +kernel, by decide⟩
def mX9_findHeaps : MD := (yX9_findHeaps, cX9_findHeaps, 3, none, 5)
theorem okX9_findHeaps : MDok mX9_findHeaps 0 := ⟨tg_in 48 (by decide +kernel) (by decide +kernel), tg_in 828 (by decide +kernel) (by decide +kernel), by decide +kernel, by decide⟩
def mX9_isAhead : MD := (yX9_isAhead, cX9_isAhead, 3, (some .boolean), 1)
theorem okX9_isAhead : MDok mX9_isAhead 2 := ⟨tg_in 48 (by decide +kernel) (by decide +kernel), tg_in 851 (by decide +kernel) (by decide +kernel), by decide +kernel, by decide⟩
def mX9_placeOf : MD := (yX9_placeOf, cX9_placeOf, 4, (some .int), 2)
theorem okX9_placeOf : MDok mX9_placeOf 1 := ⟨tg_in 48 (by decide +kernel) (by decide +kernel), tg_in 847 (by decide +kernel) (by decide +kernel), by decide +kernel, by decide⟩
def mX9_addWalker : MD := (yX9_addWalker, cX9_addWalker, 8, (some .int), 3)
theorem okX9_addWalker : MDok mX9_addWalker 5 := ⟨tg_in 48 (by decide +kernel) (by decide +kernel), tg_in 768 (by decide +kernel) (by decide +kernel), by decide +kernel, by decide⟩
def mX9_setSort : MD := (yX9_setSort, cX9_setSort, 4, (some .int), 3)
theorem okX9_setSort : MDok mX9_setSort 2 := ⟨tg_in 48 (by decide +kernel) (by decide +kernel), tg_in 776 (by decide +kernel) (by decide +kernel), by decide +kernel, by decide⟩
def mX9_cellOf : MD := (yX9_cellOf, cX9_cellOf, 2, (some .int), 2)
theorem okX9_cellOf : MDok mX9_cellOf 1 := ⟨tg_in 48 (by decide +kernel) (by decide +kernel), tg_in 792 (by decide +kernel) (by decide +kernel), by decide +kernel, by decide⟩
def mX9_pick : MD := (yX9_pick, cX9_pick, 3, none, 3)
theorem okX9_pick : MDok mX9_pick 2 := ⟨tg_in 48 (by decide +kernel) (by decide +kernel), tg_in 840 (by decide +kernel) (by decide +kernel), by decide +kernel, by decide⟩
def mX9_drop : MD := (yX9_drop, cX9_drop, 3, none, 3)
theorem okX9_drop : MDok mX9_drop 2 := ⟨tg_in 48 (by decide +kernel) (by decide +kernel), tg_in 796 (by decide +kernel) (by decide +kernel), by decide +kernel, by decide⟩
def mX9_empty : MD := (yX9_empty, cX9_empty, 2, (some .int), 4)
theorem okX9_empty : MDok mX9_empty 1 := ⟨tg_in 48 (by decide +kernel) (by decide +kernel), tg_in 788 (by decide +kernel) (by decide +kernel), by decide +kernel, by decide⟩
def mX9_addTurn : MD := (yX9_addTurn, cX9_addTurn, 3, (some .int), 2)
theorem okX9_addTurn : MDok mX9_addTurn 1 := ⟨tg_in 48 (by decide +kernel) (by decide +kernel), tg_in 800 (by decide +kernel) (by decide +kernel), by decide +kernel, by decide⟩
def mX9_clearTurns : MD := (yX9_clearTurns, cX9_clearTurns, 2, (some .int), 2)
theorem okX9_clearTurns : MDok mX9_clearTurns 0 := ⟨tg_in 48 (by decide +kernel) (by decide +kernel), tg_in 804 (by decide +kernel) (by decide +kernel), by decide +kernel, by decide⟩
def mX9_nextTurn : MD := (yX9_nextTurn, cX9_nextTurn, 2, (some .int), 1)
theorem okX9_nextTurn : MDok mX9_nextTurn 0 := ⟨tg_in 48 (by decide +kernel) (by decide +kernel), tg_in 816 (by decide +kernel) (by decide +kernel), by decide +kernel, by decide⟩
def mX9_actBySort : MD := (yX9_actBySort, cX9_actBySort, 5, none, 6)
theorem okX9_actBySort : MDok mX9_actBySort 1 := ⟨tg_in 48 (by decide +kernel) (by decide +kernel), tg_in 836 (by decide +kernel) (by decide +kernel), by decide +kernel, by decide⟩
def mX9_goAhead : MD := (yX9_goAhead, cX9_goAhead, 4, none, 7)
theorem okX9_goAhead : MDok mX9_goAhead 1 := ⟨tg_in 48 (by decide +kernel) (by decide +kernel), tg_in 824 (by decide +kernel) (by decide +kernel), by decide +kernel, by decide⟩
def mX9_step : MD := (yX9_step, cX9_step, 2, none, 8)
theorem okX9_step : MDok mX9_step 1 := ⟨tg_in 48 (by decide +kernel) (by decide +kernel), tg_in 812 (by decide +kernel) (by decide +kernel), by decide +kernel, by decide⟩
def mX9_oneRound : MD := (yX9_oneRound, cX9_oneRound, 2, none, 9)
theorem okX9_oneRound : MDok mX9_oneRound 0 := ⟨tg_in 48 (by decide +kernel) (by decide +kernel), tg_in 859 (by decide +kernel) (by decide +kernel), by decide +kernel, by decide⟩
def mX9_walk : MD := (yX9_walk, cX9_walk, 4, (some .int), 9)
theorem okX9_walk : MDok mX9_walk 2 := ⟨tg_in 48 (by decide +kernel) (by decide +kernel), tg_in 808 (by decide +kernel) (by decide +kernel), by decide +kernel, by decide⟩
def mX9_rounds : MD := (yX9_rounds, cX9_rounds, 3, (some .int), 10)
theorem okX9_rounds : MDok mX9_rounds 1 := ⟨tg_in 48 (by decide +kernel) (by decide +kernel), tg_in 855 (by decide +kernel) (by decide +kernel), by decide +kernel, by decide⟩
def mX9_roundsUntil : MD := (yX9_roundsUntil, cX9_roundsUntil, 4, (some .int), 10)
theorem okX9_roundsUntil : MDok mX9_roundsUntil 1 := ⟨tg_in 48 (by decide +kernel) (by decide +kernel), tg_in 863 (by decide +kernel) (by decide +kernel), by decide +kernel, by decide⟩
def mX9_type : MD := (yX9_type, cX9_type, 2, (some .int), 1)
theorem okX9_type : MDok mX9_type 1 := ⟨tg_in 48 (by decide +kernel) (by decide +kernel), tg_in 871 (by decide +kernel) (by decide +kernel), by decide +kernel, by decide⟩
def mX9_clearText : MD := (yX9_clearText, cX9_clearText, 2, (some .int), 1)
theorem okX9_clearText : MDok mX9_clearText 0 := ⟨tg_in 48 (by decide +kernel) (by decide +kernel), tg_in 875 (by decide +kernel) (by decide +kernel), by decide +kernel, by decide⟩
def mX9_directionOf : MD := (yX9_directionOf, cX9_directionOf, 1, (some .int), 1)
theorem okX9_directionOf : MDok mX9_directionOf 1 := ⟨tg_in 48 (by decide +kernel) (by decide +kernel), tg_in 890 (by decide +kernel) (by decide +kernel), by decide +kernel, by decide⟩
def mX9_isLetter : MD := (yX9_isLetter, cX9_isLetter, 2, (some .boolean), 2)
theorem okX9_isLetter : MDok mX9_isLetter 1 := ⟨tg_in 48 (by decide +kernel) (by decide +kernel), tg_in 887 (by decide +kernel) (by decide +kernel), by decide +kernel, by decide⟩
def mX9_isDigit : MD := (yX9_isDigit, cX9_isDigit, 2, (some .boolean), 1)
theorem okX9_isDigit : MDok mX9_isDigit 1 := ⟨tg_in 48 (by decide +kernel) (by decide +kernel), tg_in 894 (by decide +kernel) (by decide +kernel), by decide +kernel, by decide⟩
def mX9_readPlan : MD := (yX9_readPlan, cX9_readPlan, 2, (some .int), 3)
theorem okX9_readPlan : MDok mX9_readPlan 0 := ⟨tg_in 48 (by decide +kernel) (by decide +kernel), tg_in 883 (by decide +kernel) (by decide +kernel), by decide +kernel, by decide⟩
def mX9_carryOut : MD := (yX9_carryOut, cX9_carryOut, 6, none, 10)
theorem okX9_carryOut : MDok mX9_carryOut 3 := ⟨tg_in 48 (by decide +kernel) (by decide +kernel), tg_in 898 (by decide +kernel) (by decide +kernel), by decide +kernel, by decide⟩
def mX9_run : MD := (yX9_run, cX9_run, 4, (some .int), 11)
theorem okX9_run : MDok mX9_run 0 := ⟨tg_in 48 (by decide +kernel) (by decide +kernel), tg_in 879 (by decide +kernel) (by decide +kernel), by decide +kernel, by decide⟩
def mX9_chips : MD := (yX9_chips, cX9_chips, 3, (some .int), 3)
theorem okX9_chips : MDok mX9_chips 2 := ⟨tg_in 48 (by decide +kernel) (by decide +kernel), tg_in 902 (by decide +kernel) (by decide +kernel), by decide +kernel, by decide⟩
def mX9_walker : MD := (yX9_walker, cX9_walker, 3, (some .int), 3)
theorem okX9_walker : MDok mX9_walker 2 := ⟨tg_in 48 (by decide +kernel) (by decide +kernel), tg_in 906 (by decide +kernel) (by decide +kernel), by decide +kernel, by decide⟩
def mX9_heap : MD := (yX9_heap, cX9_heap, 4, (some .int), 6)
theorem okX9_heap : MDok mX9_heap 2 := ⟨tg_in 48 (by decide +kernel) (by decide +kernel), tg_in 910 (by decide +kernel) (by decide +kernel), by decide +kernel, by decide⟩
def mX9_heapOf : MD := (yX9_heapOf, cX9_heapOf, 4, (some .int), 6)
theorem okX9_heapOf : MDok mX9_heapOf 2 := ⟨tg_in 48 (by decide +kernel) (by decide +kernel), tg_in 914 (by decide +kernel) (by decide +kernel), by decide +kernel, by decide⟩
def mX9_turn : MD := (yX9_turn, cX9_turn, 2, (some .int), 1)
theorem okX9_turn : MDok mX9_turn 1 := ⟨tg_in 48 (by decide +kernel) (by decide +kernel), tg_in 918 (by decide +kernel) (by decide +kernel), by decide +kernel, by decide⟩
def mX9_pocketed : MD := (yX9_pocketed, cX9_pocketed, 3, (some .int), 2)
theorem okX9_pocketed : MDok mX9_pocketed 0 := ⟨tg_in 48 (by decide +kernel) (by decide +kernel), tg_in 926 (by decide +kernel) (by decide +kernel), by decide +kernel, by decide⟩
def mX9_count : MD := (yX9_count, cX9_count, 2, (some .int), 6)
theorem okX9_count : MDok mX9_count 1 := ⟨tg_in 48 (by decide +kernel) (by decide +kernel), tg_in 922 (by decide +kernel) (by decide +kernel), by decide +kernel, by decide⟩
def mX0_init : MD := (yX0_init, cX0_init, 1, none, 1)
theorem okX0_init : MDok mX0_init 0 := ⟨tg_in 44 (by decide +kernel) (by decide +kernel), tg_in 193 (by decide +kernel) (by decide +kernel), by decide +kernel, by decide⟩
def mX0_forget : MD := (yX0_forget, cX0_forget, 1, none, 1)
theorem okX0_forget : MDok mX0_forget 0 := ⟨tg_in 44 (by decide +kernel) (by decide +kernel), tg_in 359 (by decide +kernel) (by decide +kernel), by decide +kernel, by decide⟩
def mX0_follow : MD := (yX0_follow, cX0_follow, 5, none, 1)
theorem okX0_follow : MDok mX0_follow 3 := ⟨tg_in 44 (by decide +kernel) (by decide +kernel), tg_in 383 (by decide +kernel) (by decide +kernel), by decide +kernel, by decide⟩
def mX0_numberIn : MD := (yX0_numberIn, cX0_numberIn, 3, (some .int), 3)
theorem okX0_numberIn : MDok mX0_numberIn 1 := ⟨tg_in 44 (by decide +kernel) (by decide +kernel), tg_in 480 (by decide +kernel) (by decide +kernel), by decide +kernel, by decide⟩
def mX0_findHeap : MD := (yX0_findHeap, cX0_findHeap, 10, none, 2)
theorem okX0_findHeap : MDok mX0_findHeap 3 := ⟨tg_in 44 (by decide +kernel) (by decide +kernel), tg_in 485 (by decide +kernel) (by decide +kernel), by decide +kernel, by decide⟩
def mX0_neighbour : MD := (yX0_neighbour, cX0_neighbour, 3, (some .int), 1)
theorem okX0_neighbour : MDok mX0_neighbour 2 := ⟨tg_in 44 (by decide +kernel) (by decide +kernel), tg_in 488 (by decide +kernel) (by decide +kernel), by decide +kernel, by decide⟩
def mX0_heapWith : MD := (yX0_heapWith, cX0_heapWith, 2, (some .int), 1)
theorem okX0_heapWith : MDok mX0_heapWith 1 := ⟨tg_in 44 (by decide +kernel) (by decide +kernel), tg_in 499 (by decide +kernel) (by decide +kernel), by decide +kernel, by decide⟩
def mX0_placeOf : MD := (yX0_placeOf, cX0_placeOf, 4, (some .int), 2)
theorem okX0_placeOf : MDok mX0_placeOf 1 := ⟨tg_in 44 (by decide +kernel) (by decide +kernel), tg_in 632 (by decide +kernel) (by decide +kernel), by decide +kernel, by decide⟩
def mX0_heapAt : MD := (yX0_heapAt, cX0_heapAt, 3, (some .int), 3)
theorem okX0_heapAt : MDok mX0_heapAt 1 := ⟨tg_in 44 (by decide +kernel) (by decide +kernel), tg_in 628 (by decide +kernel) (by decide +kernel), by decide +kernel, by decide⟩
def mX0_isGreatest : MD := (yX0_isGreatest, cX0_isGreatest, 3, (some .boolean), 2)
theorem okX0_isGreatest : MDok mX0_isGreatest 1 := ⟨tg_in 44 (by decide +kernel) (by decide +kernel), tg_in 503 (by decide +kernel) (by decide +kernel), by decide +kernel, by decide⟩
def mX0_mostChips : MD := (yX0_mostChips, cX0_mostChips, 5, (some .int), 1)
theorem okX0_mostChips : MDok mX0_mostChips 2 := ⟨tg_in 44 (by decide +kernel) (by decide +kernel), tg_in 636 (by decide +kernel) (by decide +kernel), by decide +kernel, by decide⟩
def mX0_comesAhead : MD := (yX0_comesAhead, cX0_comesAhead, 3, (some .boolean), 1)
theorem okX0_comesAhead : MDok mX0_comesAhead 2 := ⟨tg_in 44 (by decide +kernel) (by decide +kernel), tg_in 507 (by decide +kernel) (by decide +kernel), by decide +kernel, by decide⟩
def mX1_init : MD := (yX1_init, cX1_init, 2, none, 3)
theorem okX1_init : MDok mX1_init 0 := ⟨tg_in 45 (by decide +kernel) (by decide +kernel), tg_in 233 (by decide +kernel) (by decide +kernel), by decide +kernel, by decide⟩
def mX1_record : MD := (yX1_record, cX1_record, 3, none, 3)
theorem okX1_record : MDok mX1_record 1 := ⟨tg_in 45 (by decide +kernel) (by decide +kernel), tg_in 320 (by decide +kernel) (by decide +kernel), by decide +kernel, by decide⟩
def mX1_takeLatest : MD := (yX1_takeLatest, cX1_takeLatest, 2, (some (.object "ChipPilers$State")), 2)
theorem okX1_takeLatest : MDok mX1_takeLatest 0 := ⟨tg_in 45 (by decide +kernel) (by decide +kernel), tg_in 590 (by decide +kernel) (by decide +kernel), by decide +kernel, by decide⟩
def mX1_dropOldest : MD := (yX1_dropOldest, cX1_dropOldest, 3, none, 1)
theorem okX1_dropOldest : MDok mX1_dropOldest 0 := ⟨tg_in 45 (by decide +kernel) (by decide +kernel), tg_in 324 (by decide +kernel) (by decide +kernel), by decide +kernel, by decide⟩
def mX1_stateAt : MD := (yX1_stateAt, cX1_stateAt, 2, (some (.object "ChipPilers$State")), 1)
theorem okX1_stateAt : MDok mX1_stateAt 1 := ⟨tg_in 45 (by decide +kernel) (by decide +kernel), tg_in 328 (by decide +kernel) (by decide +kernel), by decide +kernel, by decide⟩
def mX2_init : MD := (yX2_init, cX2_init, 1, none, 1)
theorem okX2_init : MDok mX2_init 0 := ⟨tg_in 46 (by decide +kernel) (by decide +kernel), tg_in 250 (by decide +kernel) (by decide +kernel), by decide +kernel, by decide⟩
def mX2_append : MD := (yX2_append, cX2_append, 2, (some .boolean), 1)
theorem okX2_append : MDok mX2_append 1 := ⟨tg_in 46 (by decide +kernel) (by decide +kernel), tg_in 530 (by decide +kernel) (by decide +kernel), by decide +kernel, by decide⟩
def mX2_readOrders : MD := (yX2_readOrders, cX2_readOrders, 3, (some .int), 4)
theorem okX2_readOrders : MDok mX2_readOrders 1 := ⟨tg_in 46 (by decide +kernel) (by decide +kernel), tg_in 542 (by decide +kernel) (by decide +kernel), by decide +kernel, by decide⟩
def mX2_takes : MD := (yX2_takes, cX2_takes, 4, (some .boolean), 3)
theorem okX2_takes : MDok mX2_takes 2 := ⟨tg_in 46 (by decide +kernel) (by decide +kernel), tg_in 546 (by decide +kernel) (by decide +kernel), by decide +kernel, by decide⟩
def mX2_takesWalker : MD := (yX2_takesWalker, cX2_takesWalker, 4, (some .boolean), 1)
theorem okX2_takesWalker : MDok mX2_takesWalker 2 := ⟨tg_in 46 (by decide +kernel) (by decide +kernel), tg_in 550 (by decide +kernel) (by decide +kernel), by decide +kernel, by decide⟩
def mX2_takesDigit : MD := (yX2_takesDigit, cX2_takesDigit, 4, (some .boolean), 2)
theorem okX2_takesDigit : MDok mX2_takesDigit 1 := ⟨tg_in 46 (by decide +kernel) (by decide +kernel), tg_in 554 (by decide +kernel) (by decide +kernel), by decide +kernel, by decide⟩
def mX2_takesLetter : MD := (yX2_takesLetter, cX2_takesLetter, 3, (some .boolean), 2)
theorem okX2_takesLetter : MDok mX2_takesLetter 2 := ⟨tg_in 46 (by decide +kernel) (by decide +kernel), tg_in 559 (by decide +kernel) (by decide +kernel), by decide +kernel, by decide⟩
def mX2_isOrder : MD := (yX2_isOrder, cX2_isOrder, 3, (some .boolean), 1)
theorem okX2_isOrder : MDok mX2_isOrder 2 := ⟨tg_in 46 (by decide +kernel) (by decide +kernel), tg_in 562 (by decide +kernel) (by decide +kernel), by decide +kernel, by decide⟩
def mX2_letterOf : MD := (yX2_letterOf, cX2_letterOf, 2, (some .char), 1)
theorem okX2_letterOf : MDok mX2_letterOf 1 := ⟨tg_in 46 (by decide +kernel) (by decide +kernel), tg_in 570 (by decide +kernel) (by decide +kernel), by decide +kernel, by decide⟩
def mX2_numberOf : MD := (yX2_numberOf, cX2_numberOf, 2, (some .int), 1)
theorem okX2_numberOf : MDok mX2_numberOf 1 := ⟨tg_in 46 (by decide +kernel) (by decide +kernel), tg_in 574 (by decide +kernel) (by decide +kernel), by decide +kernel, by decide⟩
def mX3_init : MD := (yX3_init, cX3_init, 1, none, 3)
theorem okX3_init : MDok mX3_init 0 := ⟨tg_in 47 (by decide +kernel) (by decide +kernel), tg_in 279 (by decide +kernel) (by decide +kernel), by decide +kernel, by decide⟩
def mX4_init : MD := (yX4_init, cX4_init, 2, none, 2)
theorem okX4_init : MDok mX4_init 0 := ⟨tg_in 41 (by decide +kernel) (by decide +kernel), tg_in 70 (by decide +kernel) (by decide +kernel), by decide +kernel, by decide⟩
def mX4_copyFrom : MD := (yX4_copyFrom, cX4_copyFrom, 5, none, 2)
theorem okX4_copyFrom : MDok mX4_copyFrom 1 := ⟨tg_in 41 (by decide +kernel) (by decide +kernel), tg_in 332 (by decide +kernel) (by decide +kernel), by decide +kernel, by decide⟩
def mX4_hasCell : MD := (yX4_hasCell, cX4_hasCell, 3, (some .boolean), 1)
theorem okX4_hasCell : MDok mX4_hasCell 2 := ⟨tg_in 41 (by decide +kernel) (by decide +kernel), tg_in 371 (by decide +kernel) (by decide +kernel), by decide +kernel, by decide⟩
def mX4_cellAt : MD := (yX4_cellAt, cX4_cellAt, 3, (some .int), 2)
theorem okX4_cellAt : MDok mX4_cellAt 2 := ⟨tg_in 41 (by decide +kernel) (by decide +kernel), tg_in 367 (by decide +kernel) (by decide +kernel), by decide +kernel, by decide⟩
def mX4_chipsOf : MD := (yX4_chipsOf, cX4_chipsOf, 2, (some .int), 1)
theorem okX4_chipsOf : MDok mX4_chipsOf 1 := ⟨tg_in 41 (by decide +kernel) (by decide +kernel), tg_in 375 (by decide +kernel) (by decide +kernel), by decide +kernel, by decide⟩
def mX4_walkerAt : MD := (yX4_walkerAt, cX4_walkerAt, 2, (some (.object "ChipPilers$Walker")), 1)
theorem okX4_walkerAt : MDok mX4_walkerAt 1 := ⟨tg_in 41 (by decide +kernel) (by decide +kernel), tg_in 339 (by decide +kernel) (by decide +kernel), by decide +kernel, by decide⟩
def mX4_allChips : MD := (yX4_allChips, cX4_allChips, 3, (some .int), 1)
theorem okX4_allChips : MDok mX4_allChips 0 := ⟨tg_in 41 (by decide +kernel) (by decide +kernel), tg_in 608 (by decide +kernel) (by decide +kernel), by decide +kernel, by decide⟩
def mX4_allPockets : MD := (yX4_allPockets, cX4_allPockets, 4, (some .int), 2)
theorem okX4_allPockets : MDok mX4_allPockets 0 := ⟨tg_in 41 (by decide +kernel) (by decide +kernel), tg_in 659 (by decide +kernel) (by decide +kernel), by decide +kernel, by decide⟩
def mX4_allSteps : MD := (yX4_allSteps, cX4_allSteps, 4, (some .int), 2)
theorem okX4_allSteps : MDok mX4_allSteps 0 := ⟨tg_in 41 (by decide +kernel) (by decide +kernel), tg_in 566 (by decide +kernel) (by decide +kernel), by decide +kernel, by decide⟩
def mX5_init : MD := (yX5_init, cX5_init, 1, none, 1)
theorem okX5_init : MDok mX5_init 0 := ⟨tg_in 42 (by decide +kernel) (by decide +kernel), tg_in 78 (by decide +kernel) (by decide +kernel), by decide +kernel, by decide⟩
def mX5_begin : MD := (yX5_begin, cX5_begin, 1, none, 1)
theorem okX5_begin : MDok mX5_begin 0 := ⟨tg_in 42 (by decide +kernel) (by decide +kernel), tg_in 443 (by decide +kernel) (by decide +kernel), by decide +kernel, by decide⟩
def mX5_append : MD := (yX5_append, cX5_append, 2, none, 1)
theorem okX5_append : MDok mX5_append 1 := ⟨tg_in 42 (by decide +kernel) (by decide +kernel), tg_in 435 (by decide +kernel) (by decide +kernel), by decide +kernel, by decide⟩
def mX5_takeNext : MD := (yX5_takeNext, cX5_takeNext, 2, (some .int), 1)
theorem okX5_takeNext : MDok mX5_takeNext 0 := ⟨tg_in 42 (by decide +kernel) (by decide +kernel), tg_in 455 (by decide +kernel) (by decide +kernel), by decide +kernel, by decide⟩
def mX5_copyFrom : MD := (yX5_copyFrom, cX5_copyFrom, 2, none, 1)
theorem okX5_copyFrom : MDok mX5_copyFrom 1 := ⟨tg_in 42 (by decide +kernel) (by decide +kernel), tg_in 347 (by decide +kernel) (by decide +kernel), by decide +kernel, by decide⟩
def mX6_init : MD := (yX6_init, cX6_init, 1, none, 1)
theorem okX6_init : MDok mX6_init 0 := ⟨tg_in 43 (by decide +kernel) (by decide +kernel), tg_in 100 (by decide +kernel) (by decide +kernel), by decide +kernel, by decide⟩
def mX6_begin : MD := (yX6_begin, cX6_begin, 6, none, 1)
theorem okX6_begin : MDok mX6_begin 5 := ⟨tg_in 43 (by decide +kernel) (by decide +kernel), tg_in 406 (by decide +kernel) (by decide +kernel), by decide +kernel, by decide⟩
def mX6_cell : MD := (yX6_cell, cX6_cell, 1, (some .int), 1)
theorem okX6_cell : MDok mX6_cell 0 := ⟨tg_in 43 (by decide +kernel) (by decide +kernel), tg_in 422 (by decide +kernel) (by decide +kernel), by decide +kernel, by decide⟩
def mX6_copyFrom : MD := (yX6_copyFrom, cX6_copyFrom, 2, none, 1)
theorem okX6_copyFrom : MDok mX6_copyFrom 1 := ⟨tg_in 43 (by decide +kernel) (by decide +kernel), tg_in 343 (by decide +kernel) (by decide +kernel), by decide +kernel, by decide⟩
def mX7_init : MD := (yX7_init, cX7_init, 1, none, 3)
theorem okX7_init : MDok mX7_init 0 := ⟨tg_in 40 (by decide +kernel) (by decide +kernel), tg_in 64 (by decide +kernel) (by decide +kernel), by decide +kernel, by decide⟩
def mX7_load : MD := (yX7_load, cX7_load, 2, none, 3)
theorem okX7_load : MDok mX7_load 1 := ⟨tg_in 40 (by decide +kernel) (by decide +kernel), tg_in 594 (by decide +kernel) (by decide +kernel), by decide +kernel, by decide⟩
def mX7_clearBoard : MD := (yX7_clearBoard, cX7_clearBoard, 3, none, 2)
theorem okX7_clearBoard : MDok mX7_clearBoard 2 := ⟨tg_in 40 (by decide +kernel) (by decide +kernel), tg_in 352 (by decide +kernel) (by decide +kernel), by decide +kernel, by decide⟩
def mX7_setChips : MD := (yX7_setChips, cX7_setChips, 4, none, 2)
theorem okX7_setChips : MDok mX7_setChips 2 := ⟨tg_in 40 (by decide +kernel) (by decide +kernel), tg_in 379 (by decide +kernel) (by decide +kernel), by decide +kernel, by decide⟩
def mX7_chipsUnder : MD := (yX7_chipsUnder, cX7_chipsUnder, 2, (some .int), 2)
theorem okX7_chipsUnder : MDok mX7_chipsUnder 1 := ⟨tg_in 40 (by decide +kernel) (by decide +kernel), tg_in 418 (by decide +kernel) (by decide +kernel), by decide +kernel, by decide⟩
def mX7_strewOver : MD := (yX7_strewOver, cX7_strewOver, 10, (some .int), 3)
theorem okX7_strewOver : MDok mX7_strewOver 4 := ⟨tg_in 40 (by decide +kernel) (by decide +kernel), tg_in 391 (by decide +kernel) (by decide +kernel), by decide +kernel, by decide⟩
def mX7_pickUp : MD := (yX7_pickUp, cX7_pickUp, 3, none, 3)
theorem okX7_pickUp : MDok mX7_pickUp 2 := ⟨tg_in 40 (by decide +kernel) (by decide +kernel), tg_in 426 (by decide +kernel) (by decide +kernel), by decide +kernel, by decide⟩
def mX7_makeRounds : MD := (yX7_makeRounds, cX7_makeRounds, 5, none, 6)
theorem okX7_makeRounds : MDok mX7_makeRounds 1 := ⟨tg_in 40 (by decide +kernel) (by decide +kernel), tg_in 519 (by decide +kernel) (by decide +kernel), by decide +kernel, by decide⟩
def mX7_makeStep : MD := (yX7_makeStep, cX7_makeStep, 4, none, 5)
theorem okX7_makeStep : MDok mX7_makeStep 1 := ⟨tg_in 40 (by decide +kernel) (by decide +kernel), tg_in 451 (by decide +kernel) (by decide +kernel), by decide +kernel, by decide⟩
def mX7_obey : MD := (yX7_obey, cX7_obey, 7, none, 5)
theorem okX7_obey : MDok mX7_obey 3 := ⟨tg_in 40 (by decide +kernel) (by decide +kernel), tg_in 579 (by decide +kernel) (by decide +kernel), by decide +kernel, by decide⟩
def mX7_stepAhead : MD := (yX7_stepAhead, cX7_stepAhead, 5, none, 4)
theorem okX7_stepAhead : MDok mX7_stepAhead 2 := ⟨tg_in 40 (by decide +kernel) (by decide +kernel), tg_in 476 (by decide +kernel) (by decide +kernel), by decide +kernel, by decide⟩
def mX7_pickedBySort : MD := (yX7_pickedBySort, cX7_pickedBySort, 6, (some .int), 3)
theorem okX7_pickedBySort : MDok mX7_pickedBySort 1 := ⟨tg_in 40 (by decide +kernel) (by decide +kernel), tg_in 492 (by decide +kernel) (by decide +kernel), by decide +kernel, by decide⟩
def mX7_hasWall : MD := (yX7_hasWall, cX7_hasWall, 3, (some .boolean), 2)
theorem okX7_hasWall : MDok mX7_hasWall 2 := ⟨tg_in 40 (by decide +kernel) (by decide +kernel), tg_in 465 (by decide +kernel) (by decide +kernel), by decide +kernel, by decide⟩
def mX7_rowAhead : MD := (yX7_rowAhead, cX7_rowAhead, 2, (some .int), 1)
theorem okX7_rowAhead : MDok mX7_rowAhead 2 := ⟨tg_in 40 (by decide +kernel) (by decide +kernel), tg_in 468 (by decide +kernel) (by decide +kernel), by decide +kernel, by decide⟩
def mX7_columnAhead : MD := (yX7_columnAhead, cX7_columnAhead, 2, (some .int), 1)
theorem okX7_columnAhead : MDok mX7_columnAhead 2 := ⟨tg_in 40 (by decide +kernel) (by decide +kernel), tg_in 471 (by decide +kernel) (by decide +kernel), by decide +kernel, by decide⟩
def mX7_toTheRight : MD := (yX7_toTheRight, cX7_toTheRight, 2, (some .int), 1)
theorem okX7_toTheRight : MDok mX7_toTheRight 2 := ⟨tg_in 40 (by decide +kernel) (by decide +kernel), tg_in 461 (by decide +kernel) (by decide +kernel), by decide +kernel, by decide⟩
def mX7_turned : MD := (yX7_turned, cX7_turned, 2, (some .int), 2)
theorem okX7_turned : MDok mX7_turned 2 := ⟨tg_in 40 (by decide +kernel) (by decide +kernel), tg_in 458 (by decide +kernel) (by decide +kernel), by decide +kernel, by decide⟩
def mX7_directionOf : MD := (yX7_directionOf, cX7_directionOf, 1, (some .int), 1)
theorem okX7_directionOf : MDok mX7_directionOf 1 := ⟨tg_in 40 (by decide +kernel) (by decide +kernel), tg_in 582 (by decide +kernel) (by decide +kernel), by decide +kernel, by decide⟩
theorem lkX8_1 : Cond.methodLink RX8 1 Lib.objectInit ∈ tg ∧ Cond.instanceMethod Lib.objectInit ∈ tg ∧ Cond.code Lib.objectInit ⟨#[0xb1]⟩ 1 none ∈ tg := ⟨tg_in 57 (by decide +kernel) (by decide +kernel), tg_in 58 (by decide +kernel) (by decide +kernel), tg_in 59 (by decide +kernel) (by decide +kernel)⟩
theorem lnX8_7 : LN RX8 7 7 := ⟨by decide, tg_in 60 (by decide +kernel) (by decide +kernel), tg_in 61 (by decide +kernel) (by decide +kernel), tg_in 40 (by decide +kernel) (by decide +kernel)⟩
theorem lkX8_9 : (∀ U, Nst U → va_Nw (.methodLinkNest RX8 9 mX7_init.1 RX8) U) ∧ Cond.instanceMethod mX7_init.1 ∈ tg ∧ mX7_init.1.name = "<init>" := ⟨fun U h => h.1.1, tg_in 63 (by decide +kernel) (by decide +kernel), rfl⟩
theorem flX8_10 : FL RX8 10 8 0 := ⟨by decide, by decide, tg_in 294 (by decide +kernel) (by decide +kernel)⟩
theorem lnX8_16 : LN RX8 16 1 := ⟨by decide, tg_in 229 (by decide +kernel) (by decide +kernel), tg_in 230 (by decide +kernel) (by decide +kernel), tg_in 45 (by decide +kernel) (by decide +kernel)⟩
theorem lkX8_18 : LI RX8 18 mX1_init := ⟨tg_in 231 (by decide +kernel) (by decide +kernel), tg_in 232 (by decide +kernel) (by decide +kernel), rfl⟩
theorem flX8_19 : FL RX8 19 8 1 := ⟨by decide, by decide, tg_in 295 (by decide +kernel) (by decide +kernel)⟩
theorem lnX8_23 : LN RX8 23 2 := ⟨by decide, tg_in 246 (by decide +kernel) (by decide +kernel), tg_in 247 (by decide +kernel) (by decide +kernel), tg_in 46 (by decide +kernel) (by decide +kernel)⟩
theorem lkX8_25 : (∀ U, Nst U → va_Nw (.methodLinkNest RX8 25 mX2_init.1 RX8) U) ∧ Cond.instanceMethod mX2_init.1 ∈ tg ∧ mX2_init.1.name = "<init>" := ⟨fun U h => h.1.2.2.2.2.1, tg_in 249 (by decide +kernel) (by decide +kernel), rfl⟩
theorem flX8_26 : FL RX8 26 8 2 := ⟨by decide, by decide, tg_in 296 (by decide +kernel) (by decide +kernel)⟩
theorem laX8_30 : Cond.classLink RX8 30 RX3 ∈ tg := tg_in 274 (by decide +kernel) (by decide +kernel)
theorem flX8_32 : FL RX8 32 8 3 := ⟨by decide, by decide, tg_in 297 (by decide +kernel) (by decide +kernel)⟩
theorem lnX8_30 : LN RX8 30 3 := ⟨by decide, tg_in 274 (by decide +kernel) (by decide +kernel), tg_in 276 (by decide +kernel) (by decide +kernel), tg_in 47 (by decide +kernel) (by decide +kernel)⟩
theorem lkX8_36 : (∀ U, Nst U → va_Nw (.methodLinkNest RX8 36 mX3_init.1 RX8) U) ∧ Cond.instanceMethod mX3_init.1 ∈ tg ∧ mX3_init.1.name = "<init>" := ⟨fun U h => h.1.2.2.2.2.2.1, tg_in 278 (by decide +kernel) (by decide +kernel), rfl⟩
theorem lnX8_37 : LN RX8 37 4 := ⟨by decide, tg_in 292 (by decide +kernel) (by decide +kernel), tg_in 67 (by decide +kernel) (by decide +kernel), tg_in 41 (by decide +kernel) (by decide +kernel)⟩
theorem lkX8_39 : LI RX8 39 mX4_init := ⟨tg_in 293 (by decide +kernel) (by decide +kernel), tg_in 69 (by decide +kernel) (by decide +kernel), rfl⟩
theorem flX8_40 : FL RX8 40 8 4 := ⟨by decide, by decide, tg_in 298 (by decide +kernel) (by decide +kernel)⟩
theorem lkX8_44 : LT RX8 44 mX8_isBetween := ⟨tg_in 314 (by decide +kernel) (by decide +kernel), tg_in 315 (by decide +kernel) (by decide +kernel)⟩
theorem flX8_48 : FL RX8 48 7 0 := ⟨by decide, by decide, tg_in 221 (by decide +kernel) (by decide +kernel)⟩
theorem lkX8_51 : LV RX8 51 mX1_record := ⟨tg_in 317 (by decide +kernel) (by decide +kernel), tg_in 318 (by decide +kernel) (by decide +kernel), tg_in 319 (by decide +kernel) (by decide +kernel)⟩
theorem lkX8_55 : LV RX8 55 mX7_clearBoard := ⟨tg_in 349 (by decide +kernel) (by decide +kernel), tg_in 350 (by decide +kernel) (by decide +kernel), tg_in 351 (by decide +kernel) (by decide +kernel)⟩
theorem lkX8_59 : LV RX8 59 mX4_cellAt := ⟨tg_in 364 (by decide +kernel) (by decide +kernel), tg_in 365 (by decide +kernel) (by decide +kernel), tg_in 366 (by decide +kernel) (by decide +kernel)⟩
theorem lkX8_63 : LV RX8 63 mX4_chipsOf := ⟨tg_in 372 (by decide +kernel) (by decide +kernel), tg_in 373 (by decide +kernel) (by decide +kernel), tg_in 374 (by decide +kernel) (by decide +kernel)⟩
theorem lkX8_67 : LV RX8 67 mX7_setChips := ⟨tg_in 376 (by decide +kernel) (by decide +kernel), tg_in 377 (by decide +kernel) (by decide +kernel), tg_in 378 (by decide +kernel) (by decide +kernel)⟩
theorem lkX8_70 : LV RX8 70 mX7_strewOver := ⟨tg_in 388 (by decide +kernel) (by decide +kernel), tg_in 389 (by decide +kernel) (by decide +kernel), tg_in 390 (by decide +kernel) (by decide +kernel)⟩
theorem lkX8_74 : LT RX8 74 mX8_isSort := ⟨tg_in 399 (by decide +kernel) (by decide +kernel), tg_in 400 (by decide +kernel) (by decide +kernel)⟩
theorem flX8_78 : FL RX8 78 4 4 := ⟨by decide, by decide, tg_in 162 (by decide +kernel) (by decide +kernel)⟩
theorem lkX8_82 : LV RX8 82 mX4_walkerAt := ⟨tg_in 402 (by decide +kernel) (by decide +kernel), tg_in 337 (by decide +kernel) (by decide +kernel), tg_in 338 (by decide +kernel) (by decide +kernel)⟩
theorem lkX8_86 : LV RX8 86 mX6_begin := ⟨tg_in 403 (by decide +kernel) (by decide +kernel), tg_in 404 (by decide +kernel) (by decide +kernel), tg_in 405 (by decide +kernel) (by decide +kernel)⟩
theorem flX8_92 : FL RX8 92 6 5 := ⟨by decide, by decide, tg_in 119 (by decide +kernel) (by decide +kernel)⟩
theorem lkX8_95 : LV RX8 95 mX7_chipsUnder := ⟨tg_in 415 (by decide +kernel) (by decide +kernel), tg_in 416 (by decide +kernel) (by decide +kernel), tg_in 417 (by decide +kernel) (by decide +kernel)⟩
theorem flX8_99 : FL RX8 99 6 3 := ⟨by decide, by decide, tg_in 113 (by decide +kernel) (by decide +kernel)⟩
theorem lkX8_102 : LV RX8 102 mX7_pickUp := ⟨tg_in 423 (by decide +kernel) (by decide +kernel), tg_in 424 (by decide +kernel) (by decide +kernel), tg_in 425 (by decide +kernel) (by decide +kernel)⟩
theorem flX8_106 : FL RX8 106 4 5 := ⟨by decide, by decide, tg_in 164 (by decide +kernel) (by decide +kernel)⟩
theorem flX8_110 : FL RX8 110 5 1 := ⟨by decide, by decide, tg_in 83 (by decide +kernel) (by decide +kernel)⟩
theorem lkX8_115 : LV RX8 115 mX5_append := ⟨tg_in 432 (by decide +kernel) (by decide +kernel), tg_in 433 (by decide +kernel) (by decide +kernel), tg_in 434 (by decide +kernel) (by decide +kernel)⟩
theorem lkX8_119 : LV RX8 119 mX5_begin := ⟨tg_in 440 (by decide +kernel) (by decide +kernel), tg_in 441 (by decide +kernel) (by decide +kernel), tg_in 442 (by decide +kernel) (by decide +kernel)⟩
theorem lkX8_121 : LV RX8 121 mX7_makeStep := ⟨tg_in 448 (by decide +kernel) (by decide +kernel), tg_in 449 (by decide +kernel) (by decide +kernel), tg_in 450 (by decide +kernel) (by decide +kernel)⟩
theorem lkX8_125 : LV RX8 125 mX7_makeRounds := ⟨tg_in 516 (by decide +kernel) (by decide +kernel), tg_in 517 (by decide +kernel) (by decide +kernel), tg_in 518 (by decide +kernel) (by decide +kernel)⟩
theorem flX8_128 : FL RX8 128 7 1 := ⟨by decide, by decide, tg_in 223 (by decide +kernel) (by decide +kernel)⟩
theorem flX8_132 : FL RX8 132 4 2 := ⟨by decide, by decide, tg_in 158 (by decide +kernel) (by decide +kernel)⟩
theorem lkX8_136 : LV RX8 136 mX0_numberIn := ⟨tg_in 522 (by decide +kernel) (by decide +kernel), tg_in 478 (by decide +kernel) (by decide +kernel), tg_in 479 (by decide +kernel) (by decide +kernel)⟩
theorem lkX8_142 : LV RX8 142 mX2_append := ⟨tg_in 527 (by decide +kernel) (by decide +kernel), tg_in 528 (by decide +kernel) (by decide +kernel), tg_in 529 (by decide +kernel) (by decide +kernel)⟩
theorem flX8_145 : FL RX8 145 2 1 := ⟨by decide, by decide, tg_in 254 (by decide +kernel) (by decide +kernel)⟩
theorem lkX8_148 : LV RX8 148 mX2_readOrders := ⟨tg_in 539 (by decide +kernel) (by decide +kernel), tg_in 540 (by decide +kernel) (by decide +kernel), tg_in 541 (by decide +kernel) (by decide +kernel)⟩
theorem lkX8_151 : LV RX8 151 mX4_allSteps := ⟨tg_in 563 (by decide +kernel) (by decide +kernel), tg_in 564 (by decide +kernel) (by decide +kernel), tg_in 565 (by decide +kernel) (by decide +kernel)⟩
theorem flX8_155 : FL RX8 155 2 4 := ⟨by decide, by decide, tg_in 258 (by decide +kernel) (by decide +kernel)⟩
theorem lkX8_158 : LV RX8 158 mX2_letterOf := ⟨tg_in 567 (by decide +kernel) (by decide +kernel), tg_in 568 (by decide +kernel) (by decide +kernel), tg_in 569 (by decide +kernel) (by decide +kernel)⟩
theorem lkX8_162 : LV RX8 162 mX2_numberOf := ⟨tg_in 571 (by decide +kernel) (by decide +kernel), tg_in 572 (by decide +kernel) (by decide +kernel), tg_in 573 (by decide +kernel) (by decide +kernel)⟩
theorem lkX8_165 : LV RX8 165 mX7_obey := ⟨tg_in 576 (by decide +kernel) (by decide +kernel), tg_in 577 (by decide +kernel) (by decide +kernel), tg_in 578 (by decide +kernel) (by decide +kernel)⟩
theorem lkX8_169 : LV RX8 169 mX1_takeLatest := ⟨tg_in 587 (by decide +kernel) (by decide +kernel), tg_in 588 (by decide +kernel) (by decide +kernel), tg_in 589 (by decide +kernel) (by decide +kernel)⟩
theorem lkX8_173 : LV RX8 173 mX7_load := ⟨tg_in 591 (by decide +kernel) (by decide +kernel), tg_in 592 (by decide +kernel) (by decide +kernel), tg_in 593 (by decide +kernel) (by decide +kernel)⟩
theorem flX8_176 : FL RX8 176 1 1 := ⟨by decide, by decide, tg_in 240 (by decide +kernel) (by decide +kernel)⟩
theorem lkX8_177 : LV RX8 177 mX8_slotAt := ⟨tg_in 600 (by decide +kernel) (by decide +kernel), tg_in 602 (by decide +kernel) (by decide +kernel), tg_in 11 (by decide +kernel) (by decide +kernel)⟩
theorem flX8_181 : FL RX8 181 3 0 := ⟨by decide, by decide, tg_in 284 (by decide +kernel) (by decide +kernel)⟩
theorem lkX8_184 : LV RX8 184 mX4_copyFrom := ⟨tg_in 604 (by decide +kernel) (by decide +kernel), tg_in 330 (by decide +kernel) (by decide +kernel), tg_in 331 (by decide +kernel) (by decide +kernel)⟩
theorem flX8_187 : FL RX8 187 3 1 := ⟨by decide, by decide, tg_in 286 (by decide +kernel) (by decide +kernel)⟩
theorem lkX8_191 : LV RX8 191 mX4_allChips := ⟨tg_in 605 (by decide +kernel) (by decide +kernel), tg_in 606 (by decide +kernel) (by decide +kernel), tg_in 607 (by decide +kernel) (by decide +kernel)⟩
theorem flX8_194 : FL RX8 194 6 0 := ⟨by decide, by decide, tg_in 104 (by decide +kernel) (by decide +kernel)⟩
theorem flX8_197 : FL RX8 197 6 1 := ⟨by decide, by decide, tg_in 107 (by decide +kernel) (by decide +kernel)⟩
theorem flX8_200 : FL RX8 200 6 2 := ⟨by decide, by decide, tg_in 110 (by decide +kernel) (by decide +kernel)⟩
theorem flX8_203 : FL RX8 203 6 4 := ⟨by decide, by decide, tg_in 117 (by decide +kernel) (by decide +kernel)⟩
theorem flX8_206 : FL RX8 206 6 6 := ⟨by decide, by decide, tg_in 124 (by decide +kernel) (by decide +kernel)⟩
theorem flX8_209 : FL RX8 209 6 7 := ⟨by decide, by decide, tg_in 127 (by decide +kernel) (by decide +kernel)⟩
theorem flX8_212 : FL RX8 212 6 8 := ⟨by decide, by decide, tg_in 130 (by decide +kernel) (by decide +kernel)⟩
theorem lkX8_215 : LV RX8 215 mX0_heapAt := ⟨tg_in 625 (by decide +kernel) (by decide +kernel), tg_in 626 (by decide +kernel) (by decide +kernel), tg_in 627 (by decide +kernel) (by decide +kernel)⟩
theorem flX8_218 : FL RX8 218 0 0 := ⟨by decide, by decide, tg_in 196 (by decide +kernel) (by decide +kernel)⟩
theorem flX8_221 : FL RX8 221 0 1 := ⟨by decide, by decide, tg_in 198 (by decide +kernel) (by decide +kernel)⟩
theorem flX8_224 : FL RX8 224 0 2 := ⟨by decide, by decide, tg_in 200 (by decide +kernel) (by decide +kernel)⟩
theorem lkX8_227 : LV RX8 227 mX0_mostChips := ⟨tg_in 633 (by decide +kernel) (by decide +kernel), tg_in 634 (by decide +kernel) (by decide +kernel), tg_in 635 (by decide +kernel) (by decide +kernel)⟩
theorem lkX8_231 : LV RX8 231 mX0_heapWith := ⟨tg_in 642 (by decide +kernel) (by decide +kernel), tg_in 497 (by decide +kernel) (by decide +kernel), tg_in 498 (by decide +kernel) (by decide +kernel)⟩
theorem lkX8_234 : LV RX8 234 mX0_placeOf := ⟨tg_in 643 (by decide +kernel) (by decide +kernel), tg_in 630 (by decide +kernel) (by decide +kernel), tg_in 631 (by decide +kernel) (by decide +kernel)⟩
theorem flX8_237 : FL RX8 237 5 0 := ⟨by decide, by decide, tg_in 81 (by decide +kernel) (by decide +kernel)⟩
theorem flX8_240 : FL RX8 240 4 0 := ⟨by decide, by decide, tg_in 152 (by decide +kernel) (by decide +kernel)⟩
theorem flX8_243 : FL RX8 243 4 1 := ⟨by decide, by decide, tg_in 155 (by decide +kernel) (by decide +kernel)⟩
theorem lkX8_246 : LV RX8 246 mX4_allPockets := ⟨tg_in 656 (by decide +kernel) (by decide +kernel), tg_in 657 (by decide +kernel) (by decide +kernel), tg_in 658 (by decide +kernel) (by decide +kernel)⟩
theorem flX8_249 : FL RX8 249 4 6 := ⟨by decide, by decide, tg_in 168 (by decide +kernel) (by decide +kernel)⟩
theorem flX8_252 : FL RX8 252 4 7 := ⟨by decide, by decide, tg_in 171 (by decide +kernel) (by decide +kernel)⟩
theorem flX8_255 : FL RX8 255 5 2 := ⟨by decide, by decide, tg_in 85 (by decide +kernel) (by decide +kernel)⟩
theorem lkX9_1 : Cond.methodLink RX9 1 Lib.objectInit ∈ tg ∧ Cond.instanceMethod Lib.objectInit ∈ tg ∧ Cond.code Lib.objectInit ⟨#[0xb1]⟩ 1 none ∈ tg := ⟨tg_in 665 (by decide +kernel) (by decide +kernel), tg_in 58 (by decide +kernel) (by decide +kernel), tg_in 59 (by decide +kernel) (by decide +kernel)⟩
theorem flX9_7 : FL RX9 7 9 0 := ⟨by decide, by decide, tg_in 666 (by decide +kernel) (by decide +kernel)⟩
theorem flX9_13 : FL RX9 13 9 1 := ⟨by decide, by decide, tg_in 667 (by decide +kernel) (by decide +kernel)⟩
theorem flX9_16 : FL RX9 16 9 2 := ⟨by decide, by decide, tg_in 668 (by decide +kernel) (by decide +kernel)⟩
theorem flX9_19 : FL RX9 19 9 4 := ⟨by decide, by decide, tg_in 670 (by decide +kernel) (by decide +kernel)⟩
theorem flX9_22 : FL RX9 22 9 5 := ⟨by decide, by decide, tg_in 671 (by decide +kernel) (by decide +kernel)⟩
theorem flX9_26 : FL RX9 26 9 6 := ⟨by decide, by decide, tg_in 672 (by decide +kernel) (by decide +kernel)⟩
theorem flX9_29 : FL RX9 29 9 8 := ⟨by decide, by decide, tg_in 674 (by decide +kernel) (by decide +kernel)⟩
theorem flX9_32 : FL RX9 32 9 9 := ⟨by decide, by decide, tg_in 675 (by decide +kernel) (by decide +kernel)⟩
theorem flX9_35 : FL RX9 35 9 10 := ⟨by decide, by decide, tg_in 676 (by decide +kernel) (by decide +kernel)⟩
theorem flX9_38 : FL RX9 38 9 11 := ⟨by decide, by decide, tg_in 677 (by decide +kernel) (by decide +kernel)⟩
theorem flX9_41 : FL RX9 41 9 12 := ⟨by decide, by decide, tg_in 678 (by decide +kernel) (by decide +kernel)⟩
theorem flX9_44 : FL RX9 44 9 14 := ⟨by decide, by decide, tg_in 680 (by decide +kernel) (by decide +kernel)⟩
theorem flX9_48 : FL RX9 48 9 16 := ⟨by decide, by decide, tg_in 682 (by decide +kernel) (by decide +kernel)⟩
theorem flX9_51 : FL RX9 51 9 17 := ⟨by decide, by decide, tg_in 683 (by decide +kernel) (by decide +kernel)⟩
theorem flX9_54 : FL RX9 54 9 3 := ⟨by decide, by decide, tg_in 669 (by decide +kernel) (by decide +kernel)⟩
theorem lkX9_58 : LT RX9 58 mX9_in := ⟨tg_in 730 (by decide +kernel) (by decide +kernel), tg_in 731 (by decide +kernel) (by decide +kernel)⟩
theorem lkX9_62 : LV RX9 62 mX9_allChips := ⟨tg_in 733 (by decide +kernel) (by decide +kernel), tg_in 735 (by decide +kernel) (by decide +kernel), tg_in 12 (by decide +kernel) (by decide +kernel)⟩
theorem lkX9_66 : LV RX9 66 mX9_begin := ⟨tg_in 741 (by decide +kernel) (by decide +kernel), tg_in 743 (by decide +kernel) (by decide +kernel), tg_in 13 (by decide +kernel) (by decide +kernel)⟩
theorem lkX9_69 : LV RX9 69 mX9_done := ⟨tg_in 745 (by decide +kernel) (by decide +kernel), tg_in 747 (by decide +kernel) (by decide +kernel), tg_in 14 (by decide +kernel) (by decide +kernel)⟩
theorem lkX9_73 : LV RX9 73 mX9_isCell := ⟨tg_in 757 (by decide +kernel) (by decide +kernel), tg_in 759 (by decide +kernel) (by decide +kernel), tg_in 15 (by decide +kernel) (by decide +kernel)⟩
theorem flX9_77 : FL RX9 77 9 7 := ⟨by decide, by decide, tg_in 673 (by decide +kernel) (by decide +kernel)⟩
theorem lkX9_80 : LV RX9 80 mX9_stepped := ⟨tg_in 817 (by decide +kernel) (by decide +kernel), tg_in 819 (by decide +kernel) (by decide +kernel), tg_in 23 (by decide +kernel) (by decide +kernel)⟩
theorem lkX9_84 : LV RX9 84 mX9_spread := ⟨tg_in 829 (by decide +kernel) (by decide +kernel), tg_in 831 (by decide +kernel) (by decide +kernel), tg_in 26 (by decide +kernel) (by decide +kernel)⟩
theorem lkX9_88 : LV RX9 88 mX9_isAhead := ⟨tg_in 848 (by decide +kernel) (by decide +kernel), tg_in 850 (by decide +kernel) (by decide +kernel), tg_in 30 (by decide +kernel) (by decide +kernel)⟩
theorem lkX9_91 : LV RX9 91 mX9_lay := ⟨tg_in 769 (by decide +kernel) (by decide +kernel), tg_in 771 (by decide +kernel) (by decide +kernel), tg_in 16 (by decide +kernel) (by decide +kernel)⟩
theorem lkX9_95 : LV RX9 95 mX9_noWalker := ⟨tg_in 777 (by decide +kernel) (by decide +kernel), tg_in 779 (by decide +kernel) (by decide +kernel), tg_in 17 (by decide +kernel) (by decide +kernel)⟩
theorem lkX9_99 : LV RX9 99 mX9_of := ⟨tg_in 781 (by decide +kernel) (by decide +kernel), tg_in 783 (by decide +kernel) (by decide +kernel), tg_in 18 (by decide +kernel) (by decide +kernel)⟩
theorem lkX9_102 : LV RX9 102 mX9_cellOf := ⟨tg_in 789 (by decide +kernel) (by decide +kernel), tg_in 791 (by decide +kernel) (by decide +kernel), tg_in 19 (by decide +kernel) (by decide +kernel)⟩
theorem lkX9_105 : LV RX9 105 mX9_drop := ⟨tg_in 793 (by decide +kernel) (by decide +kernel), tg_in 795 (by decide +kernel) (by decide +kernel), tg_in 20 (by decide +kernel) (by decide +kernel)⟩
theorem lkX9_109 : LV RX9 109 mX9_pick := ⟨tg_in 837 (by decide +kernel) (by decide +kernel), tg_in 839 (by decide +kernel) (by decide +kernel), tg_in 28 (by decide +kernel) (by decide +kernel)⟩
theorem lkX9_112 : LT RX9 112 mX9_lesser := ⟨tg_in 841 (by decide +kernel) (by decide +kernel), tg_in 842 (by decide +kernel) (by decide +kernel)⟩
theorem lkX9_115 : LV RX9 115 mX9_findHeaps := ⟨tg_in 825 (by decide +kernel) (by decide +kernel), tg_in 827 (by decide +kernel) (by decide +kernel), tg_in 25 (by decide +kernel) (by decide +kernel)⟩
theorem lkX9_118 : LV RX9 118 mX9_placeOf := ⟨tg_in 844 (by decide +kernel) (by decide +kernel), tg_in 846 (by decide +kernel) (by decide +kernel), tg_in 29 (by decide +kernel) (by decide +kernel)⟩
theorem lkX9_121 : LV RX9 121 mX9_actBySort := ⟨tg_in 833 (by decide +kernel) (by decide +kernel), tg_in 835 (by decide +kernel) (by decide +kernel), tg_in 27 (by decide +kernel) (by decide +kernel)⟩
theorem lkX9_124 : LV RX9 124 mX9_nextTurn := ⟨tg_in 813 (by decide +kernel) (by decide +kernel), tg_in 815 (by decide +kernel) (by decide +kernel), tg_in 22 (by decide +kernel) (by decide +kernel)⟩
theorem lkX9_127 : LV RX9 127 mX9_goAhead := ⟨tg_in 821 (by decide +kernel) (by decide +kernel), tg_in 823 (by decide +kernel) (by decide +kernel), tg_in 24 (by decide +kernel) (by decide +kernel)⟩
theorem lkX9_130 : LV RX9 130 mX9_step := ⟨tg_in 809 (by decide +kernel) (by decide +kernel), tg_in 811 (by decide +kernel) (by decide +kernel), tg_in 21 (by decide +kernel) (by decide +kernel)⟩
theorem lkX9_133 : LV RX9 133 mX9_oneRound := ⟨tg_in 856 (by decide +kernel) (by decide +kernel), tg_in 858 (by decide +kernel) (by decide +kernel), tg_in 31 (by decide +kernel) (by decide +kernel)⟩
theorem lkX9_136 : LV RX9 136 mX9_goBack := ⟨tg_in 864 (by decide +kernel) (by decide +kernel), tg_in 866 (by decide +kernel) (by decide +kernel), tg_in 32 (by decide +kernel) (by decide +kernel)⟩
theorem flX9_139 : FL RX9 139 9 13 := ⟨by decide, by decide, tg_in 679 (by decide +kernel) (by decide +kernel)⟩
theorem lkX9_142 : LT RX9 142 mX9_directionOf := ⟨tg_in 888 (by decide +kernel) (by decide +kernel), tg_in 889 (by decide +kernel) (by decide +kernel)⟩
theorem flX9_146 : FL RX9 146 9 15 := ⟨by decide, by decide, tg_in 681 (by decide +kernel) (by decide +kernel)⟩
theorem lkX9_149 : LV RX9 149 mX9_isLetter := ⟨tg_in 884 (by decide +kernel) (by decide +kernel), tg_in 886 (by decide +kernel) (by decide +kernel), tg_in 34 (by decide +kernel) (by decide +kernel)⟩
theorem lkX9_153 : LV RX9 153 mX9_isDigit := ⟨tg_in 891 (by decide +kernel) (by decide +kernel), tg_in 893 (by decide +kernel) (by decide +kernel), tg_in 35 (by decide +kernel) (by decide +kernel)⟩
theorem lkX9_156 : LV RX9 156 mX9_readPlan := ⟨tg_in 880 (by decide +kernel) (by decide +kernel), tg_in 882 (by decide +kernel) (by decide +kernel), tg_in 33 (by decide +kernel) (by decide +kernel)⟩
theorem lkX9_159 : LV RX9 159 mX9_carryOut := ⟨tg_in 895 (by decide +kernel) (by decide +kernel), tg_in 897 (by decide +kernel) (by decide +kernel), tg_in 36 (by decide +kernel) (by decide +kernel)⟩
theorem lkX9_163 : LV RX9 163 mX9_pocketed := ⟨tg_in 923 (by decide +kernel) (by decide +kernel), tg_in 925 (by decide +kernel) (by decide +kernel), tg_in 37 (by decide +kernel) (by decide +kernel)⟩
theorem lkX0_3 : Cond.methodLink RX0 3 Lib.objectInit ∈ tg ∧ Cond.instanceMethod Lib.objectInit ∈ tg ∧ Cond.code Lib.objectInit ⟨#[0xb1]⟩ 1 none ∈ tg := ⟨tg_in 194 (by decide +kernel) (by decide +kernel), tg_in 58 (by decide +kernel) (by decide +kernel), tg_in 59 (by decide +kernel) (by decide +kernel)⟩
theorem flX0_9 : FL RX0 9 0 0 := ⟨by decide, by decide, tg_in 195 (by decide +kernel) (by decide +kernel)⟩
theorem flX0_15 : FL RX0 15 0 1 := ⟨by decide, by decide, tg_in 197 (by decide +kernel) (by decide +kernel)⟩
theorem flX0_18 : FL RX0 18 0 2 := ⟨by decide, by decide, tg_in 199 (by decide +kernel) (by decide +kernel)⟩
theorem flX0_21 : FL RX0 21 0 3 := ⟨by decide, by decide, tg_in 201 (by decide +kernel) (by decide +kernel)⟩
theorem flX0_24 : FL RX0 24 0 4 := ⟨by decide, by decide, tg_in 202 (by decide +kernel) (by decide +kernel)⟩
theorem flX0_27 : FL RX0 27 0 5 := ⟨by decide, by decide, tg_in 203 (by decide +kernel) (by decide +kernel)⟩
theorem flX0_31 : FL RX0 31 0 6 := ⟨by decide, by decide, tg_in 204 (by decide +kernel) (by decide +kernel)⟩
theorem lkX0_35 : LT RX0 35 mFill := ⟨tg_in 481 (by decide +kernel) (by decide +kernel), tg_in 354 (by decide +kernel) (by decide +kernel)⟩
theorem lkX0_41 : LV RX0 41 mX0_findHeap := ⟨tg_in 482 (by decide +kernel) (by decide +kernel), tg_in 484 (by decide +kernel) (by decide +kernel), tg_in 4 (by decide +kernel) (by decide +kernel)⟩
theorem lkX0_45 : LT RX0 45 mX0_neighbour := ⟨tg_in 486 (by decide +kernel) (by decide +kernel), tg_in 487 (by decide +kernel) (by decide +kernel)⟩
theorem lkX0_49 : LV RX0 49 mX0_comesAhead := ⟨tg_in 504 (by decide +kernel) (by decide +kernel), tg_in 506 (by decide +kernel) (by decide +kernel), tg_in 6 (by decide +kernel) (by decide +kernel)⟩
theorem lkX0_53 : LV RX0 53 mX0_placeOf := ⟨tg_in 629 (by decide +kernel) (by decide +kernel), tg_in 630 (by decide +kernel) (by decide +kernel), tg_in 631 (by decide +kernel) (by decide +kernel)⟩
theorem lkX0_57 : LM RX0 57 Lib.Math.max.name Lib.Math.max.code := ⟨tg_in 637 (by decide +kernel) (by decide +kernel), tg_in 510 (by decide +kernel) (by decide +kernel), tg_in 51 (by decide +kernel) (by decide +kernel), tg_in 511 (by decide +kernel) (by decide +kernel)⟩
theorem lkX1_3 : Cond.methodLink RX1 3 Lib.objectInit ∈ tg ∧ Cond.instanceMethod Lib.objectInit ∈ tg ∧ Cond.code Lib.objectInit ⟨#[0xb1]⟩ 1 none ∈ tg := ⟨tg_in 234 (by decide +kernel) (by decide +kernel), tg_in 58 (by decide +kernel) (by decide +kernel), tg_in 59 (by decide +kernel) (by decide +kernel)⟩
theorem laX1_9 : Cond.classLink RX1 9 RX4 ∈ tg := tg_in 235 (by decide +kernel) (by decide +kernel)
theorem flX1_11 : FL RX1 11 1 0 := ⟨by decide, by decide, tg_in 238 (by decide +kernel) (by decide +kernel)⟩
theorem flX1_17 : FL RX1 17 1 1 := ⟨by decide, by decide, tg_in 239 (by decide +kernel) (by decide +kernel)⟩
theorem lnX1_9 : LN RX1 9 4 := ⟨by decide, tg_in 235 (by decide +kernel) (by decide +kernel), tg_in 67 (by decide +kernel) (by decide +kernel), tg_in 41 (by decide +kernel) (by decide +kernel)⟩
theorem lkX1_21 : LI RX1 21 mX4_init := ⟨tg_in 237 (by decide +kernel) (by decide +kernel), tg_in 69 (by decide +kernel) (by decide +kernel), rfl⟩
theorem lkX1_22 : LV RX1 22 mX1_dropOldest := ⟨tg_in 321 (by decide +kernel) (by decide +kernel), tg_in 323 (by decide +kernel) (by decide +kernel), tg_in 0 (by decide +kernel) (by decide +kernel)⟩
theorem lkX1_25 : LV RX1 25 mX1_stateAt := ⟨tg_in 325 (by decide +kernel) (by decide +kernel), tg_in 327 (by decide +kernel) (by decide +kernel), tg_in 1 (by decide +kernel) (by decide +kernel)⟩
theorem lkX1_29 : LV RX1 29 mX4_copyFrom := ⟨tg_in 329 (by decide +kernel) (by decide +kernel), tg_in 330 (by decide +kernel) (by decide +kernel), tg_in 331 (by decide +kernel) (by decide +kernel)⟩
theorem lkX2_3 : Cond.methodLink RX2 3 Lib.objectInit ∈ tg ∧ Cond.instanceMethod Lib.objectInit ∈ tg ∧ Cond.code Lib.objectInit ⟨#[0xb1]⟩ 1 none ∈ tg := ⟨tg_in 251 (by decide +kernel) (by decide +kernel), tg_in 58 (by decide +kernel) (by decide +kernel), tg_in 59 (by decide +kernel) (by decide +kernel)⟩
theorem flX2_9 : FL RX2 9 2 0 := ⟨by decide, by decide, tg_in 252 (by decide +kernel) (by decide +kernel)⟩
theorem flX2_15 : FL RX2 15 2 1 := ⟨by decide, by decide, tg_in 253 (by decide +kernel) (by decide +kernel)⟩
theorem flX2_19 : FL RX2 19 2 2 := ⟨by decide, by decide, tg_in 255 (by decide +kernel) (by decide +kernel)⟩
theorem flX2_22 : FL RX2 22 2 3 := ⟨by decide, by decide, tg_in 256 (by decide +kernel) (by decide +kernel)⟩
theorem flX2_26 : FL RX2 26 2 4 := ⟨by decide, by decide, tg_in 257 (by decide +kernel) (by decide +kernel)⟩
theorem flX2_29 : FL RX2 29 2 5 := ⟨by decide, by decide, tg_in 259 (by decide +kernel) (by decide +kernel)⟩
theorem lkX2_33 : LV RX2 33 mX2_takes := ⟨tg_in 543 (by decide +kernel) (by decide +kernel), tg_in 545 (by decide +kernel) (by decide +kernel), tg_in 7 (by decide +kernel) (by decide +kernel)⟩
theorem lkX2_37 : LV RX2 37 mX2_takesWalker := ⟨tg_in 547 (by decide +kernel) (by decide +kernel), tg_in 549 (by decide +kernel) (by decide +kernel), tg_in 8 (by decide +kernel) (by decide +kernel)⟩
theorem lkX2_41 : LV RX2 41 mX2_takesDigit := ⟨tg_in 551 (by decide +kernel) (by decide +kernel), tg_in 553 (by decide +kernel) (by decide +kernel), tg_in 9 (by decide +kernel) (by decide +kernel)⟩
theorem lkX2_45 : LV RX2 45 mX2_takesLetter := ⟨tg_in 556 (by decide +kernel) (by decide +kernel), tg_in 558 (by decide +kernel) (by decide +kernel), tg_in 10 (by decide +kernel) (by decide +kernel)⟩
theorem lkX2_48 : (∀ U, Nst U → va_Nw (.methodLinkNest RX2 48 mX8_isBetween.1 RX8) U) ∧ Cond.static mX8_isBetween.1 ∈ tg := ⟨fun U h => h.1.2.2.2.2.2.2, tg_in 315 (by decide +kernel) (by decide +kernel)⟩
theorem lkX2_52 : LT RX2 52 mX2_isOrder := ⟨tg_in 560 (by decide +kernel) (by decide +kernel), tg_in 561 (by decide +kernel) (by decide +kernel)⟩
theorem lkX2_55 : LM RX2 55 Lib.Math.max.name Lib.Math.max.code := ⟨tg_in 575 (by decide +kernel) (by decide +kernel), tg_in 510 (by decide +kernel) (by decide +kernel), tg_in 51 (by decide +kernel) (by decide +kernel), tg_in 511 (by decide +kernel) (by decide +kernel)⟩
theorem lkX3_1 : Cond.methodLink RX3 1 Lib.objectInit ∈ tg ∧ Cond.instanceMethod Lib.objectInit ∈ tg ∧ Cond.code Lib.objectInit ⟨#[0xb1]⟩ 1 none ∈ tg := ⟨tg_in 280 (by decide +kernel) (by decide +kernel), tg_in 58 (by decide +kernel) (by decide +kernel), tg_in 59 (by decide +kernel) (by decide +kernel)⟩
theorem lnX3_7 : LN RX3 7 4 := ⟨by decide, tg_in 281 (by decide +kernel) (by decide +kernel), tg_in 67 (by decide +kernel) (by decide +kernel), tg_in 41 (by decide +kernel) (by decide +kernel)⟩
theorem lkX3_9 : LI RX3 9 mX4_init := ⟨tg_in 282 (by decide +kernel) (by decide +kernel), tg_in 69 (by decide +kernel) (by decide +kernel), rfl⟩
theorem flX3_10 : FL RX3 10 3 0 := ⟨by decide, by decide, tg_in 283 (by decide +kernel) (by decide +kernel)⟩
theorem flX3_16 : FL RX3 16 3 1 := ⟨by decide, by decide, tg_in 285 (by decide +kernel) (by decide +kernel)⟩
theorem lkX4_3 : Cond.methodLink RX4 3 Lib.objectInit ∈ tg ∧ Cond.instanceMethod Lib.objectInit ∈ tg ∧ Cond.code Lib.objectInit ⟨#[0xb1]⟩ 1 none ∈ tg := ⟨tg_in 71 (by decide +kernel) (by decide +kernel), tg_in 58 (by decide +kernel) (by decide +kernel), tg_in 59 (by decide +kernel) (by decide +kernel)⟩
theorem flX4_9 : FL RX4 9 4 0 := ⟨by decide, by decide, tg_in 150 (by decide +kernel) (by decide +kernel)⟩
theorem flX4_15 : FL RX4 15 4 1 := ⟨by decide, by decide, tg_in 153 (by decide +kernel) (by decide +kernel)⟩
theorem flX4_18 : FL RX4 18 4 2 := ⟨by decide, by decide, tg_in 156 (by decide +kernel) (by decide +kernel)⟩
theorem laX4_22 : Cond.classLink RX4 22 RX6 ∈ tg := tg_in 72 (by decide +kernel) (by decide +kernel)
theorem flX4_24 : FL RX4 24 4 3 := ⟨by decide, by decide, tg_in 159 (by decide +kernel) (by decide +kernel)⟩
theorem flX4_28 : FL RX4 28 4 4 := ⟨by decide, by decide, tg_in 160 (by decide +kernel) (by decide +kernel)⟩
theorem lnX4_31 : LN RX4 31 5 := ⟨by decide, tg_in 74 (by decide +kernel) (by decide +kernel), tg_in 75 (by decide +kernel) (by decide +kernel), tg_in 42 (by decide +kernel) (by decide +kernel)⟩
theorem lkX4_33 : (∀ U, Nst U → va_Nw (.methodLinkNest RX4 33 mX5_init.1 RX8) U) ∧ Cond.instanceMethod mX5_init.1 ∈ tg ∧ mX5_init.1.name = "<init>" := ⟨fun U h => h.1.2.1, tg_in 77 (by decide +kernel) (by decide +kernel), rfl⟩
theorem flX4_34 : FL RX4 34 4 5 := ⟨by decide, by decide, tg_in 163 (by decide +kernel) (by decide +kernel)⟩
theorem flX4_38 : FL RX4 38 4 6 := ⟨by decide, by decide, tg_in 166 (by decide +kernel) (by decide +kernel)⟩
theorem flX4_41 : FL RX4 41 4 7 := ⟨by decide, by decide, tg_in 169 (by decide +kernel) (by decide +kernel)⟩
theorem lnX4_22 : LN RX4 22 6 := ⟨by decide, tg_in 72 (by decide +kernel) (by decide +kernel), tg_in 97 (by decide +kernel) (by decide +kernel), tg_in 43 (by decide +kernel) (by decide +kernel)⟩
theorem lkX4_44 : (∀ U, Nst U → va_Nw (.methodLinkNest RX4 44 mX6_init.1 RX8) U) ∧ Cond.instanceMethod mX6_init.1 ∈ tg ∧ mX6_init.1.name = "<init>" := ⟨fun U h => h.1.2.2.1, tg_in 99 (by decide +kernel) (by decide +kernel), rfl⟩
theorem lkX4_45 : LC RX4 45 := ⟨tg_in 333 (by decide +kernel) (by decide +kernel), tg_in 335 (by decide +kernel) (by decide +kernel), tg_in 334 (by decide +kernel) (by decide +kernel), tg_in 49 (by decide +kernel) (by decide +kernel)⟩
theorem lkX4_51 : LV RX4 51 mX4_walkerAt := ⟨tg_in 336 (by decide +kernel) (by decide +kernel), tg_in 337 (by decide +kernel) (by decide +kernel), tg_in 338 (by decide +kernel) (by decide +kernel)⟩
theorem lkX4_55 : LV RX4 55 mX6_copyFrom := ⟨tg_in 340 (by decide +kernel) (by decide +kernel), tg_in 341 (by decide +kernel) (by decide +kernel), tg_in 342 (by decide +kernel) (by decide +kernel)⟩
theorem lkX4_59 : LV RX4 59 mX5_copyFrom := ⟨tg_in 344 (by decide +kernel) (by decide +kernel), tg_in 345 (by decide +kernel) (by decide +kernel), tg_in 346 (by decide +kernel) (by decide +kernel)⟩
theorem lkX4_62 : LV RX4 62 mX4_hasCell := ⟨tg_in 368 (by decide +kernel) (by decide +kernel), tg_in 369 (by decide +kernel) (by decide +kernel), tg_in 370 (by decide +kernel) (by decide +kernel)⟩
theorem flX4_66 : FL RX4 66 6 3 := ⟨by decide, by decide, tg_in 114 (by decide +kernel) (by decide +kernel)⟩
theorem flX4_69 : FL RX4 69 6 6 := ⟨by decide, by decide, tg_in 122 (by decide +kernel) (by decide +kernel)⟩
theorem lkX5_3 : Cond.methodLink RX5 3 Lib.objectInit ∈ tg ∧ Cond.instanceMethod Lib.objectInit ∈ tg ∧ Cond.code Lib.objectInit ⟨#[0xb1]⟩ 1 none ∈ tg := ⟨tg_in 79 (by decide +kernel) (by decide +kernel), tg_in 58 (by decide +kernel) (by decide +kernel), tg_in 59 (by decide +kernel) (by decide +kernel)⟩
theorem flX5_9 : FL RX5 9 5 0 := ⟨by decide, by decide, tg_in 80 (by decide +kernel) (by decide +kernel)⟩
theorem flX5_15 : FL RX5 15 5 1 := ⟨by decide, by decide, tg_in 82 (by decide +kernel) (by decide +kernel)⟩
theorem flX5_19 : FL RX5 19 5 2 := ⟨by decide, by decide, tg_in 84 (by decide +kernel) (by decide +kernel)⟩
theorem flX5_22 : FL RX5 22 5 3 := ⟨by decide, by decide, tg_in 86 (by decide +kernel) (by decide +kernel)⟩
theorem lkX5_26 : LC RX5 26 := ⟨tg_in 348 (by decide +kernel) (by decide +kernel), tg_in 335 (by decide +kernel) (by decide +kernel), tg_in 334 (by decide +kernel) (by decide +kernel), tg_in 49 (by decide +kernel) (by decide +kernel)⟩
theorem lkX6_3 : Cond.methodLink RX6 3 Lib.objectInit ∈ tg ∧ Cond.instanceMethod Lib.objectInit ∈ tg ∧ Cond.code Lib.objectInit ⟨#[0xb1]⟩ 1 none ∈ tg := ⟨tg_in 101 (by decide +kernel) (by decide +kernel), tg_in 58 (by decide +kernel) (by decide +kernel), tg_in 59 (by decide +kernel) (by decide +kernel)⟩
theorem flX6_9 : FL RX6 9 6 0 := ⟨by decide, by decide, tg_in 102 (by decide +kernel) (by decide +kernel)⟩
theorem flX6_15 : FL RX6 15 6 1 := ⟨by decide, by decide, tg_in 105 (by decide +kernel) (by decide +kernel)⟩
theorem flX6_18 : FL RX6 18 6 2 := ⟨by decide, by decide, tg_in 108 (by decide +kernel) (by decide +kernel)⟩
theorem flX6_21 : FL RX6 21 6 3 := ⟨by decide, by decide, tg_in 111 (by decide +kernel) (by decide +kernel)⟩
theorem flX6_24 : FL RX6 24 6 4 := ⟨by decide, by decide, tg_in 115 (by decide +kernel) (by decide +kernel)⟩
theorem flX6_27 : FL RX6 27 6 5 := ⟨by decide, by decide, tg_in 118 (by decide +kernel) (by decide +kernel)⟩
theorem flX6_30 : FL RX6 30 6 6 := ⟨by decide, by decide, tg_in 121 (by decide +kernel) (by decide +kernel)⟩
theorem flX6_33 : FL RX6 33 6 7 := ⟨by decide, by decide, tg_in 125 (by decide +kernel) (by decide +kernel)⟩
theorem flX6_36 : FL RX6 36 6 8 := ⟨by decide, by decide, tg_in 128 (by decide +kernel) (by decide +kernel)⟩
theorem lkX7_3 : Cond.methodLink RX7 3 Lib.objectInit ∈ tg ∧ Cond.instanceMethod Lib.objectInit ∈ tg ∧ Cond.code Lib.objectInit ⟨#[0xb1]⟩ 1 none ∈ tg := ⟨tg_in 65 (by decide +kernel) (by decide +kernel), tg_in 58 (by decide +kernel) (by decide +kernel), tg_in 59 (by decide +kernel) (by decide +kernel)⟩
theorem lnX7_9 : LN RX7 9 4 := ⟨by decide, tg_in 66 (by decide +kernel) (by decide +kernel), tg_in 67 (by decide +kernel) (by decide +kernel), tg_in 41 (by decide +kernel) (by decide +kernel)⟩
theorem lkX7_11 : LI RX7 11 mX4_init := ⟨tg_in 68 (by decide +kernel) (by decide +kernel), tg_in 69 (by decide +kernel) (by decide +kernel), rfl⟩
theorem flX7_12 : FL RX7 12 7 0 := ⟨by decide, by decide, tg_in 220 (by decide +kernel) (by decide +kernel)⟩
theorem lnX7_18 : LN RX7 18 0 := ⟨by decide, tg_in 189 (by decide +kernel) (by decide +kernel), tg_in 190 (by decide +kernel) (by decide +kernel), tg_in 44 (by decide +kernel) (by decide +kernel)⟩
theorem lkX7_20 : (∀ U, Nst U → va_Nw (.methodLinkNest RX7 20 mX0_init.1 RX8) U) ∧ Cond.instanceMethod mX0_init.1 ∈ tg ∧ mX0_init.1.name = "<init>" := ⟨fun U h => h.1.2.2.2.1, tg_in 192 (by decide +kernel) (by decide +kernel), rfl⟩
theorem flX7_21 : FL RX7 21 7 1 := ⟨by decide, by decide, tg_in 222 (by decide +kernel) (by decide +kernel)⟩
theorem lkX7_25 : LV RX7 25 mX4_copyFrom := ⟨tg_in 595 (by decide +kernel) (by decide +kernel), tg_in 330 (by decide +kernel) (by decide +kernel), tg_in 331 (by decide +kernel) (by decide +kernel)⟩
theorem lkX7_29 : LV RX7 29 mX0_forget := ⟨tg_in 356 (by decide +kernel) (by decide +kernel), tg_in 357 (by decide +kernel) (by decide +kernel), tg_in 358 (by decide +kernel) (by decide +kernel)⟩
theorem flX7_32 : FL RX7 32 4 0 := ⟨by decide, by decide, tg_in 151 (by decide +kernel) (by decide +kernel)⟩
theorem flX7_36 : FL RX7 36 4 1 := ⟨by decide, by decide, tg_in 154 (by decide +kernel) (by decide +kernel)⟩
theorem flX7_39 : FL RX7 39 4 2 := ⟨by decide, by decide, tg_in 157 (by decide +kernel) (by decide +kernel)⟩
theorem lkX7_43 : LT RX7 43 mFill := ⟨tg_in 353 (by decide +kernel) (by decide +kernel), tg_in 354 (by decide +kernel) (by decide +kernel)⟩
theorem flX7_49 : FL RX7 49 4 4 := ⟨by decide, by decide, tg_in 161 (by decide +kernel) (by decide +kernel)⟩
theorem flX7_52 : FL RX7 52 4 6 := ⟨by decide, by decide, tg_in 167 (by decide +kernel) (by decide +kernel)⟩
theorem flX7_55 : FL RX7 55 4 7 := ⟨by decide, by decide, tg_in 170 (by decide +kernel) (by decide +kernel)⟩
theorem lkX7_58 : LV RX7 58 mX0_follow := ⟨tg_in 380 (by decide +kernel) (by decide +kernel), tg_in 381 (by decide +kernel) (by decide +kernel), tg_in 382 (by decide +kernel) (by decide +kernel)⟩
theorem lkX7_62 : LV RX7 62 mX6_cell := ⟨tg_in 419 (by decide +kernel) (by decide +kernel), tg_in 420 (by decide +kernel) (by decide +kernel), tg_in 421 (by decide +kernel) (by decide +kernel)⟩
theorem lkX7_68 : LV RX7 68 mX4_chipsOf := ⟨tg_in 393 (by decide +kernel) (by decide +kernel), tg_in 373 (by decide +kernel) (by decide +kernel), tg_in 374 (by decide +kernel) (by decide +kernel)⟩
theorem lkX7_72 : LV RX7 72 mX4_cellAt := ⟨tg_in 392 (by decide +kernel) (by decide +kernel), tg_in 365 (by decide +kernel) (by decide +kernel), tg_in 366 (by decide +kernel) (by decide +kernel)⟩
theorem lkX7_76 : LV RX7 76 mX7_setChips := ⟨tg_in 394 (by decide +kernel) (by decide +kernel), tg_in 377 (by decide +kernel) (by decide +kernel), tg_in 378 (by decide +kernel) (by decide +kernel)⟩
theorem lkX7_80 : LV RX7 80 mX7_chipsUnder := ⟨tg_in 427 (by decide +kernel) (by decide +kernel), tg_in 416 (by decide +kernel) (by decide +kernel), tg_in 417 (by decide +kernel) (by decide +kernel)⟩
theorem flX7_84 : FL RX7 84 6 3 := ⟨by decide, by decide, tg_in 112 (by decide +kernel) (by decide +kernel)⟩
theorem flX7_87 : FL RX7 87 6 7 := ⟨by decide, by decide, tg_in 126 (by decide +kernel) (by decide +kernel)⟩
theorem flX7_90 : FL RX7 90 6 8 := ⟨by decide, by decide, tg_in 129 (by decide +kernel) (by decide +kernel)⟩
theorem lkX7_93 : LV RX7 93 mX4_walkerAt := ⟨tg_in 520 (by decide +kernel) (by decide +kernel), tg_in 337 (by decide +kernel) (by decide +kernel), tg_in 338 (by decide +kernel) (by decide +kernel)⟩
theorem lkX7_97 : LV RX7 97 mX7_makeStep := ⟨tg_in 521 (by decide +kernel) (by decide +kernel), tg_in 449 (by decide +kernel) (by decide +kernel), tg_in 450 (by decide +kernel) (by decide +kernel)⟩
theorem flX7_101 : FL RX7 101 6 2 := ⟨by decide, by decide, tg_in 109 (by decide +kernel) (by decide +kernel)⟩
theorem flX7_104 : FL RX7 104 4 5 := ⟨by decide, by decide, tg_in 165 (by decide +kernel) (by decide +kernel)⟩
theorem lkX7_108 : LV RX7 108 mX5_takeNext := ⟨tg_in 452 (by decide +kernel) (by decide +kernel), tg_in 453 (by decide +kernel) (by decide +kernel), tg_in 454 (by decide +kernel) (by decide +kernel)⟩
theorem lkX7_113 : LT RX7 113 mX7_turned := ⟨tg_in 456 (by decide +kernel) (by decide +kernel), tg_in 457 (by decide +kernel) (by decide +kernel)⟩
theorem lkX7_116 : LV RX7 116 mX7_hasWall := ⟨tg_in 462 (by decide +kernel) (by decide +kernel), tg_in 464 (by decide +kernel) (by decide +kernel), tg_in 2 (by decide +kernel) (by decide +kernel)⟩
theorem lkX7_120 : LT RX7 120 mX7_toTheRight := ⟨tg_in 459 (by decide +kernel) (by decide +kernel), tg_in 460 (by decide +kernel) (by decide +kernel)⟩
theorem lkX7_123 : LV RX7 123 mX7_stepAhead := ⟨tg_in 473 (by decide +kernel) (by decide +kernel), tg_in 475 (by decide +kernel) (by decide +kernel), tg_in 3 (by decide +kernel) (by decide +kernel)⟩
theorem flX7_127 : FL RX7 127 6 4 := ⟨by decide, by decide, tg_in 116 (by decide +kernel) (by decide +kernel)⟩
theorem lkX7_130 : LM RX7 130 Lib.Math.min.name Lib.Math.min.code := ⟨tg_in 493 (by decide +kernel) (by decide +kernel), tg_in 494 (by decide +kernel) (by decide +kernel), tg_in 51 (by decide +kernel) (by decide +kernel), tg_in 495 (by decide +kernel) (by decide +kernel)⟩
theorem lkX7_135 : LV RX7 135 mX7_pickUp := ⟨tg_in 508 (by decide +kernel) (by decide +kernel), tg_in 424 (by decide +kernel) (by decide +kernel), tg_in 425 (by decide +kernel) (by decide +kernel)⟩
theorem lkX7_138 : LT RX7 138 mX7_directionOf := ⟨tg_in 580 (by decide +kernel) (by decide +kernel), tg_in 581 (by decide +kernel) (by decide +kernel)⟩
theorem lkX7_142 : LT RX7 142 mX7_rowAhead := ⟨tg_in 466 (by decide +kernel) (by decide +kernel), tg_in 467 (by decide +kernel) (by decide +kernel)⟩
theorem flX7_146 : FL RX7 146 6 0 := ⟨by decide, by decide, tg_in 103 (by decide +kernel) (by decide +kernel)⟩
theorem lkX7_149 : LT RX7 149 mX7_columnAhead := ⟨tg_in 469 (by decide +kernel) (by decide +kernel), tg_in 470 (by decide +kernel) (by decide +kernel)⟩
theorem flX7_152 : FL RX7 152 6 1 := ⟨by decide, by decide, tg_in 106 (by decide +kernel) (by decide +kernel)⟩
theorem flX7_155 : FL RX7 155 6 6 := ⟨by decide, by decide, tg_in 123 (by decide +kernel) (by decide +kernel)⟩
theorem lkX7_158 : LV RX7 158 mX0_numberIn := ⟨tg_in 477 (by decide +kernel) (by decide +kernel), tg_in 478 (by decide +kernel) (by decide +kernel), tg_in 479 (by decide +kernel) (by decide +kernel)⟩
theorem lkX7_162 : LV RX7 162 mX7_pickedBySort := ⟨tg_in 489 (by decide +kernel) (by decide +kernel), tg_in 491 (by decide +kernel) (by decide +kernel), tg_in 5 (by decide +kernel) (by decide +kernel)⟩
theorem lkX7_165 : LM RX7 165 Lib.Math.max.name Lib.Math.max.code := ⟨tg_in 509 (by decide +kernel) (by decide +kernel), tg_in 510 (by decide +kernel) (by decide +kernel), tg_in 51 (by decide +kernel) (by decide +kernel), tg_in 511 (by decide +kernel) (by decide +kernel)⟩
theorem flX7_168 : FL RX7 168 6 5 := ⟨by decide, by decide, tg_in 120 (by decide +kernel) (by decide +kernel)⟩
theorem lkX7_171 : LV RX7 171 mX0_heapWith := ⟨tg_in 496 (by decide +kernel) (by decide +kernel), tg_in 497 (by decide +kernel) (by decide +kernel), tg_in 498 (by decide +kernel) (by decide +kernel)⟩
theorem lkX7_174 : LV RX7 174 mX0_isGreatest := ⟨tg_in 500 (by decide +kernel) (by decide +kernel), tg_in 501 (by decide +kernel) (by decide +kernel), tg_in 502 (by decide +kernel) (by decide +kernel)⟩
theorem lkX7_178 : LV RX7 178 mX4_hasCell := ⟨tg_in 472 (by decide +kernel) (by decide +kernel), tg_in 369 (by decide +kernel) (by decide +kernel), tg_in 370 (by decide +kernel) (by decide +kernel)⟩
theorem lnL_7 : LN RL 7 8 := ⟨by decide, tg_in 52 (by decide +kernel) (by decide +kernel), tg_in 53 (by decide +kernel) (by decide +kernel), tg_in 39 (by decide +kernel) (by decide +kernel)⟩
theorem lkL_9 : LI RL 9 mX8_init := ⟨tg_in 54 (by decide +kernel) (by decide +kernel), tg_in 55 (by decide +kernel) (by decide +kernel), rfl⟩
theorem lnL_10 : LN RL 10 9 := ⟨by decide, tg_in 660 (by decide +kernel) (by decide +kernel), tg_in 661 (by decide +kernel) (by decide +kernel), tg_in 48 (by decide +kernel) (by decide +kernel)⟩
theorem lkL_12 : LI RL 12 mX9_init := ⟨tg_in 662 (by decide +kernel) (by decide +kernel), tg_in 663 (by decide +kernel) (by decide +kernel), rfl⟩
theorem lkL_13 : LV RL 13 mX8_reset := ⟨tg_in 310 (by decide +kernel) (by decide +kernel), tg_in 311 (by decide +kernel) (by decide +kernel), tg_in 312 (by decide +kernel) (by decide +kernel)⟩
theorem lkL_17 : LV RL 17 mX9_reset := ⟨tg_in 749 (by decide +kernel) (by decide +kernel), tg_in 750 (by decide +kernel) (by decide +kernel), tg_in 751 (by decide +kernel) (by decide +kernel)⟩
theorem lkL_18 : LV RL 18 mX8_put := ⟨tg_in 360 (by decide +kernel) (by decide +kernel), tg_in 361 (by decide +kernel) (by decide +kernel), tg_in 362 (by decide +kernel) (by decide +kernel)⟩
theorem lkL_22 : LV RL 22 mX9_put := ⟨tg_in 753 (by decide +kernel) (by decide +kernel), tg_in 754 (by decide +kernel) (by decide +kernel), tg_in 755 (by decide +kernel) (by decide +kernel)⟩
theorem lkL_23 : LV RL 23 mX8_strew := ⟨tg_in 384 (by decide +kernel) (by decide +kernel), tg_in 385 (by decide +kernel) (by decide +kernel), tg_in 386 (by decide +kernel) (by decide +kernel)⟩
theorem lkL_26 : LV RL 26 mX9_strew := ⟨tg_in 761 (by decide +kernel) (by decide +kernel), tg_in 762 (by decide +kernel) (by decide +kernel), tg_in 763 (by decide +kernel) (by decide +kernel)⟩
theorem lkL_27 : LV RL 27 mX8_addWalker := ⟨tg_in 395 (by decide +kernel) (by decide +kernel), tg_in 396 (by decide +kernel) (by decide +kernel), tg_in 397 (by decide +kernel) (by decide +kernel)⟩
theorem lkL_31 : LV RL 31 mX9_addWalker := ⟨tg_in 765 (by decide +kernel) (by decide +kernel), tg_in 766 (by decide +kernel) (by decide +kernel), tg_in 767 (by decide +kernel) (by decide +kernel)⟩
theorem lkL_32 : LV RL 32 mX8_setSort := ⟨tg_in 407 (by decide +kernel) (by decide +kernel), tg_in 408 (by decide +kernel) (by decide +kernel), tg_in 409 (by decide +kernel) (by decide +kernel)⟩
theorem lkL_35 : LV RL 35 mX9_setSort := ⟨tg_in 773 (by decide +kernel) (by decide +kernel), tg_in 774 (by decide +kernel) (by decide +kernel), tg_in 775 (by decide +kernel) (by decide +kernel)⟩
theorem lkL_36 : LV RL 36 mX8_empty := ⟨tg_in 411 (by decide +kernel) (by decide +kernel), tg_in 412 (by decide +kernel) (by decide +kernel), tg_in 413 (by decide +kernel) (by decide +kernel)⟩
theorem lkL_40 : LV RL 40 mX9_empty := ⟨tg_in 785 (by decide +kernel) (by decide +kernel), tg_in 786 (by decide +kernel) (by decide +kernel), tg_in 787 (by decide +kernel) (by decide +kernel)⟩
theorem lkL_41 : LV RL 41 mX8_addTurn := ⟨tg_in 428 (by decide +kernel) (by decide +kernel), tg_in 429 (by decide +kernel) (by decide +kernel), tg_in 430 (by decide +kernel) (by decide +kernel)⟩
theorem lkL_44 : LV RL 44 mX9_addTurn := ⟨tg_in 797 (by decide +kernel) (by decide +kernel), tg_in 798 (by decide +kernel) (by decide +kernel), tg_in 799 (by decide +kernel) (by decide +kernel)⟩
theorem lkL_45 : LV RL 45 mX8_clearTurns := ⟨tg_in 436 (by decide +kernel) (by decide +kernel), tg_in 437 (by decide +kernel) (by decide +kernel), tg_in 438 (by decide +kernel) (by decide +kernel)⟩
theorem lkL_49 : LV RL 49 mX9_clearTurns := ⟨tg_in 801 (by decide +kernel) (by decide +kernel), tg_in 802 (by decide +kernel) (by decide +kernel), tg_in 803 (by decide +kernel) (by decide +kernel)⟩
theorem lkL_50 : LV RL 50 mX8_walk := ⟨tg_in 444 (by decide +kernel) (by decide +kernel), tg_in 445 (by decide +kernel) (by decide +kernel), tg_in 446 (by decide +kernel) (by decide +kernel)⟩
theorem lkL_53 : LV RL 53 mX9_walk := ⟨tg_in 805 (by decide +kernel) (by decide +kernel), tg_in 806 (by decide +kernel) (by decide +kernel), tg_in 807 (by decide +kernel) (by decide +kernel)⟩
theorem lkL_54 : LV RL 54 mX8_rounds := ⟨tg_in 512 (by decide +kernel) (by decide +kernel), tg_in 513 (by decide +kernel) (by decide +kernel), tg_in 514 (by decide +kernel) (by decide +kernel)⟩
theorem lkL_57 : LV RL 57 mX9_rounds := ⟨tg_in 852 (by decide +kernel) (by decide +kernel), tg_in 853 (by decide +kernel) (by decide +kernel), tg_in 854 (by decide +kernel) (by decide +kernel)⟩
theorem lkL_58 : LV RL 58 mX8_type := ⟨tg_in 523 (by decide +kernel) (by decide +kernel), tg_in 524 (by decide +kernel) (by decide +kernel), tg_in 525 (by decide +kernel) (by decide +kernel)⟩
theorem lkL_62 : LV RL 62 mX9_type := ⟨tg_in 868 (by decide +kernel) (by decide +kernel), tg_in 869 (by decide +kernel) (by decide +kernel), tg_in 870 (by decide +kernel) (by decide +kernel)⟩
theorem lkL_63 : LV RL 63 mX8_clearText := ⟨tg_in 531 (by decide +kernel) (by decide +kernel), tg_in 532 (by decide +kernel) (by decide +kernel), tg_in 533 (by decide +kernel) (by decide +kernel)⟩
theorem lkL_66 : LV RL 66 mX9_clearText := ⟨tg_in 872 (by decide +kernel) (by decide +kernel), tg_in 873 (by decide +kernel) (by decide +kernel), tg_in 874 (by decide +kernel) (by decide +kernel)⟩
theorem lkL_67 : LV RL 67 mX8_run := ⟨tg_in 535 (by decide +kernel) (by decide +kernel), tg_in 536 (by decide +kernel) (by decide +kernel), tg_in 537 (by decide +kernel) (by decide +kernel)⟩
theorem lkL_70 : LV RL 70 mX9_run := ⟨tg_in 876 (by decide +kernel) (by decide +kernel), tg_in 877 (by decide +kernel) (by decide +kernel), tg_in 878 (by decide +kernel) (by decide +kernel)⟩
theorem lkL_71 : LV RL 71 mX8_undo := ⟨tg_in 583 (by decide +kernel) (by decide +kernel), tg_in 584 (by decide +kernel) (by decide +kernel), tg_in 585 (by decide +kernel) (by decide +kernel)⟩
theorem lkL_74 : LV RL 74 mX9_undo := ⟨tg_in 722 (by decide +kernel) (by decide +kernel), tg_in 723 (by decide +kernel) (by decide +kernel), tg_in 724 (by decide +kernel) (by decide +kernel)⟩
theorem lkL_75 : LV RL 75 mX8_keep := ⟨tg_in 596 (by decide +kernel) (by decide +kernel), tg_in 597 (by decide +kernel) (by decide +kernel), tg_in 598 (by decide +kernel) (by decide +kernel)⟩
theorem lkL_78 : LV RL 78 mX9_keep := ⟨tg_in 726 (by decide +kernel) (by decide +kernel), tg_in 727 (by decide +kernel) (by decide +kernel), tg_in 728 (by decide +kernel) (by decide +kernel)⟩
theorem lkL_79 : LV RL 79 mX8_restore := ⟨tg_in 609 (by decide +kernel) (by decide +kernel), tg_in 610 (by decide +kernel) (by decide +kernel), tg_in 611 (by decide +kernel) (by decide +kernel)⟩
theorem lkL_82 : LV RL 82 mX9_restore := ⟨tg_in 737 (by decide +kernel) (by decide +kernel), tg_in 738 (by decide +kernel) (by decide +kernel), tg_in 739 (by decide +kernel) (by decide +kernel)⟩
theorem lkL_83 : LV RL 83 mX8_chips := ⟨tg_in 613 (by decide +kernel) (by decide +kernel), tg_in 614 (by decide +kernel) (by decide +kernel), tg_in 615 (by decide +kernel) (by decide +kernel)⟩
theorem lkL_86 : LV RL 86 mX9_chips := ⟨tg_in 899 (by decide +kernel) (by decide +kernel), tg_in 900 (by decide +kernel) (by decide +kernel), tg_in 901 (by decide +kernel) (by decide +kernel)⟩
theorem lkL_87 : LV RL 87 mX8_walker := ⟨tg_in 617 (by decide +kernel) (by decide +kernel), tg_in 618 (by decide +kernel) (by decide +kernel), tg_in 619 (by decide +kernel) (by decide +kernel)⟩
theorem lkL_90 : LV RL 90 mX9_walker := ⟨tg_in 903 (by decide +kernel) (by decide +kernel), tg_in 904 (by decide +kernel) (by decide +kernel), tg_in 905 (by decide +kernel) (by decide +kernel)⟩
theorem lkL_91 : LV RL 91 mX8_heap := ⟨tg_in 621 (by decide +kernel) (by decide +kernel), tg_in 622 (by decide +kernel) (by decide +kernel), tg_in 623 (by decide +kernel) (by decide +kernel)⟩
theorem lkL_94 : LV RL 94 mX9_heap := ⟨tg_in 907 (by decide +kernel) (by decide +kernel), tg_in 908 (by decide +kernel) (by decide +kernel), tg_in 909 (by decide +kernel) (by decide +kernel)⟩
theorem lkL_95 : LV RL 95 mX8_heapOf := ⟨tg_in 638 (by decide +kernel) (by decide +kernel), tg_in 639 (by decide +kernel) (by decide +kernel), tg_in 640 (by decide +kernel) (by decide +kernel)⟩
theorem lkL_98 : LV RL 98 mX9_heapOf := ⟨tg_in 911 (by decide +kernel) (by decide +kernel), tg_in 912 (by decide +kernel) (by decide +kernel), tg_in 913 (by decide +kernel) (by decide +kernel)⟩
theorem lkL_99 : LV RL 99 mX8_roundsUntil := ⟨tg_in 644 (by decide +kernel) (by decide +kernel), tg_in 645 (by decide +kernel) (by decide +kernel), tg_in 646 (by decide +kernel) (by decide +kernel)⟩
theorem lkL_102 : LV RL 102 mX9_roundsUntil := ⟨tg_in 860 (by decide +kernel) (by decide +kernel), tg_in 861 (by decide +kernel) (by decide +kernel), tg_in 862 (by decide +kernel) (by decide +kernel)⟩
theorem lkL_103 : LV RL 103 mX8_turn := ⟨tg_in 648 (by decide +kernel) (by decide +kernel), tg_in 649 (by decide +kernel) (by decide +kernel), tg_in 650 (by decide +kernel) (by decide +kernel)⟩
theorem lkL_106 : LV RL 106 mX9_turn := ⟨tg_in 915 (by decide +kernel) (by decide +kernel), tg_in 916 (by decide +kernel) (by decide +kernel), tg_in 917 (by decide +kernel) (by decide +kernel)⟩
theorem lkL_107 : LV RL 107 mX8_count := ⟨tg_in 652 (by decide +kernel) (by decide +kernel), tg_in 653 (by decide +kernel) (by decide +kernel), tg_in 654 (by decide +kernel) (by decide +kernel)⟩
theorem lkL_110 : LV RL 110 mX9_count := ⟨tg_in 919 (by decide +kernel) (by decide +kernel), tg_in 920 (by decide +kernel) (by decide +kernel), tg_in 921 (by decide +kernel) (by decide +kernel)⟩
theorem ac_int : Cond.arrayClass .int ∈ tg := tg_in 96 (by decide +kernel) (by decide +kernel)
theorem ac_char : Cond.arrayClass .char ∈ tg := tg_in 273 (by decide +kernel) (by decide +kernel)
theorem ac_boolean : Cond.arrayClass .boolean ∈ tg := tg_in 721 (by decide +kernel) (by decide +kernel)
end
