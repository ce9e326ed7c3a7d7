section
-- ===== PART A: goes FIRST, ahead of the names: the tables' words, and 'selects' of the private methods out of them =====
/-- a private method of a class that the tables say can be made, by its rows of tables_1 -/
def lw_okq (q : MethodName × Nat) : Prop := (q.1.cls ≠ "java/lang/invoke/MethodHandle" ∧ q.1.cls ≠ "java/lang/invoke/VarHandle") ∧ Cond.instantiable q.1.cls q.2 ∈ tables_1 ∧ Cond.privateMethod q.1 ∈ tables_1 ∧ Cond.instanceMethod q.1 ∈ tables_1
theorem lw_p0 : lw_okq (⟨"java/lang/Throwable", "fillInStackTrace", "(I)Ljava/lang/Throwable;"⟩, 6) := ⟨⟨by decide +kernel, by decide +kernel⟩, List.mem_of_getElem? (i := 246) (by decide +kernel), List.mem_of_getElem? (i := 244) (by decide +kernel), List.mem_of_getElem? (i := 245) (by decide +kernel)⟩
theorem lw_p1 : lw_okq (⟨"SiltStore", "write", "(II)I"⟩, 15) := ⟨⟨by decide +kernel, by decide +kernel⟩, List.mem_of_getElem? (i := 18) (by decide +kernel), List.mem_of_getElem? (i := 327) (by decide +kernel), List.mem_of_getElem? (i := 328) (by decide +kernel)⟩
theorem lw_p2 : lw_okq (⟨"SiltStore", "fillHand", "()V"⟩, 15) := ⟨⟨by decide +kernel, by decide +kernel⟩, List.mem_of_getElem? (i := 18) (by decide +kernel), List.mem_of_getElem? (i := 365) (by decide +kernel), List.mem_of_getElem? (i := 366) (by decide +kernel)⟩
theorem lw_p3 : lw_okq (⟨"SiltStore", "layHand", "()V"⟩, 15) := ⟨⟨by decide +kernel, by decide +kernel⟩, List.mem_of_getElem? (i := 18) (by decide +kernel), List.mem_of_getElem? (i := 411) (by decide +kernel), List.mem_of_getElem? (i := 412) (by decide +kernel)⟩
theorem lw_p4 : lw_okq (⟨"SiltStore$Shelf", "openRun", "(I)V"⟩, 8) := ⟨⟨by decide +kernel, by decide +kernel⟩, List.mem_of_getElem? (i := 98) (by decide +kernel), List.mem_of_getElem? (i := 434) (by decide +kernel), List.mem_of_getElem? (i := 435) (by decide +kernel)⟩
theorem lw_p5 : lw_okq (⟨"SiltStore", "settle", "()V"⟩, 15) := ⟨⟨by decide +kernel, by decide +kernel⟩, List.mem_of_getElem? (i := 18) (by decide +kernel), List.mem_of_getElem? (i := 444) (by decide +kernel), List.mem_of_getElem? (i := 445) (by decide +kernel)⟩
theorem lw_p6 : lw_okq (⟨"SiltStore", "firstFull", "()I"⟩, 15) := ⟨⟨by decide +kernel, by decide +kernel⟩, List.mem_of_getElem? (i := 18) (by decide +kernel), List.mem_of_getElem? (i := 449) (by decide +kernel), List.mem_of_getElem? (i := 450) (by decide +kernel)⟩
theorem lw_p7 : lw_okq (⟨"SiltStore", "isFull", "(I)Z"⟩, 15) := ⟨⟨by decide +kernel, by decide +kernel⟩, List.mem_of_getElem? (i := 18) (by decide +kernel), List.mem_of_getElem? (i := 453) (by decide +kernel), List.mem_of_getElem? (i := 454) (by decide +kernel)⟩
theorem lw_p8 : lw_okq (⟨"SiltStore", "takeLevel", "(I)I"⟩, 15) := ⟨⟨by decide +kernel, by decide +kernel⟩, List.mem_of_getElem? (i := 18) (by decide +kernel), List.mem_of_getElem? (i := 465) (by decide +kernel), List.mem_of_getElem? (i := 466) (by decide +kernel)⟩
theorem lw_p9 : lw_okq (⟨"SiltStore", "takeRuns", "(III)V"⟩, 15) := ⟨⟨by decide +kernel, by decide +kernel⟩, List.mem_of_getElem? (i := 18) (by decide +kernel), List.mem_of_getElem? (i := 469) (by decide +kernel), List.mem_of_getElem? (i := 470) (by decide +kernel)⟩
theorem lw_p10 : lw_okq (⟨"SiltStore", "takePart", "(I)I"⟩, 15) := ⟨⟨by decide +kernel, by decide +kernel⟩, List.mem_of_getElem? (i := 18) (by decide +kernel), List.mem_of_getElem? (i := 483) (by decide +kernel), List.mem_of_getElem? (i := 484) (by decide +kernel)⟩
theorem lw_p11 : lw_okq (⟨"SiltStore", "layPile", "(II)V"⟩, 15) := ⟨⟨by decide +kernel, by decide +kernel⟩, List.mem_of_getElem? (i := 18) (by decide +kernel), List.mem_of_getElem? (i := 535) (by decide +kernel), List.mem_of_getElem? (i := 536) (by decide +kernel)⟩
theorem lw_p12 : lw_okq (⟨"SiltStore", "planPack", "(I)I"⟩, 15) := ⟨⟨by decide +kernel, by decide +kernel⟩, List.mem_of_getElem? (i := 18) (by decide +kernel), List.mem_of_getElem? (i := 574) (by decide +kernel), List.mem_of_getElem? (i := 575) (by decide +kernel)⟩
theorem lw_p13 : lw_okq (⟨"SiltStore", "firstPacked", "(I)I"⟩, 15) := ⟨⟨by decide +kernel, by decide +kernel⟩, List.mem_of_getElem? (i := 18) (by decide +kernel), List.mem_of_getElem? (i := 578) (by decide +kernel), List.mem_of_getElem? (i := 579) (by decide +kernel)⟩
theorem lw_p14 : lw_okq (⟨"SiltStore", "placeOfSnapshot", "(I)I"⟩, 15) := ⟨⟨by decide +kernel, by decide +kernel⟩, List.mem_of_getElem? (i := 18) (by decide +kernel), List.mem_of_getElem? (i := 619) (by decide +kernel), List.mem_of_getElem? (i := 620) (by decide +kernel)⟩
theorem lw_p15 : lw_okq (⟨"SiltStore", "lookUp", "(IILSiltStore$Row;)I"⟩, 15) := ⟨⟨by decide +kernel, by decide +kernel⟩, List.mem_of_getElem? (i := 18) (by decide +kernel), List.mem_of_getElem? (i := 637) (by decide +kernel), List.mem_of_getElem? (i := 638) (by decide +kernel)⟩
def lw_privs_1 : List (MethodName × Nat) := [(⟨"java/lang/Throwable", "fillInStackTrace", "(I)Ljava/lang/Throwable;"⟩, 6), (⟨"SiltStore", "write", "(II)I"⟩, 15), (⟨"SiltStore", "fillHand", "()V"⟩, 15), (⟨"SiltStore", "layHand", "()V"⟩, 15), (⟨"SiltStore$Shelf", "openRun", "(I)V"⟩, 8), (⟨"SiltStore", "settle", "()V"⟩, 15), (⟨"SiltStore", "firstFull", "()I"⟩, 15), (⟨"SiltStore", "isFull", "(I)Z"⟩, 15), (⟨"SiltStore", "takeLevel", "(I)I"⟩, 15), (⟨"SiltStore", "takeRuns", "(III)V"⟩, 15), (⟨"SiltStore", "takePart", "(I)I"⟩, 15), (⟨"SiltStore", "layPile", "(II)V"⟩, 15), (⟨"SiltStore", "planPack", "(I)I"⟩, 15), (⟨"SiltStore", "firstPacked", "(I)I"⟩, 15), (⟨"SiltStore", "placeOfSnapshot", "(I)I"⟩, 15), (⟨"SiltStore", "lookUp", "(IILSiltStore$Row;)I"⟩, 15)]
theorem lw_r1 : ∀ q ∈ lw_privs_1, lw_okq q := List.forall_mem_cons.mpr ⟨lw_p0, List.forall_mem_cons.mpr ⟨lw_p1, List.forall_mem_cons.mpr ⟨lw_p2, List.forall_mem_cons.mpr ⟨lw_p3, List.forall_mem_cons.mpr ⟨lw_p4, List.forall_mem_cons.mpr ⟨lw_p5, List.forall_mem_cons.mpr ⟨lw_p6, List.forall_mem_cons.mpr ⟨lw_p7, List.forall_mem_cons.mpr ⟨lw_p8, List.forall_mem_cons.mpr ⟨lw_p9, List.forall_mem_cons.mpr ⟨lw_p10, List.forall_mem_cons.mpr ⟨lw_p11, List.forall_mem_cons.mpr ⟨lw_p12, List.forall_mem_cons.mpr ⟨lw_p13, List.forall_mem_cons.mpr ⟨lw_p14, List.forall_mem_cons.mpr ⟨lw_p15, fun _ h => absurd h List.not_mem_nil⟩⟩⟩⟩⟩⟩⟩⟩⟩⟩⟩⟩⟩⟩⟩⟩
theorem lw_p16 : lw_okq (⟨"SiltStore", "lookInRuns", "(IILSiltStore$Row;)I"⟩, 15) := ⟨⟨by decide +kernel, by decide +kernel⟩, List.mem_of_getElem? (i := 18) (by decide +kernel), List.mem_of_getElem? (i := 642) (by decide +kernel), List.mem_of_getElem? (i := 643) (by decide +kernel)⟩
theorem lw_p17 : lw_okq (⟨"SiltStore", "lookInRun", "(IIILSiltStore$Row;)I"⟩, 15) := ⟨⟨by decide +kernel, by decide +kernel⟩, List.mem_of_getElem? (i := 18) (by decide +kernel), List.mem_of_getElem? (i := 650) (by decide +kernel), List.mem_of_getElem? (i := 651) (by decide +kernel)⟩
theorem lw_p18 : lw_okq (⟨"SiltStore$Shelf", "filterOf", "(I)J"⟩, 8) := ⟨⟨by decide +kernel, by decide +kernel⟩, List.mem_of_getElem? (i := 98) (by decide +kernel), List.mem_of_getElem? (i := 658) (by decide +kernel), List.mem_of_getElem? (i := 659) (by decide +kernel)⟩
theorem lw_p19 : lw_okq (⟨"SiltStore", "valueOf", "(I)I"⟩, 15) := ⟨⟨by decide +kernel, by decide +kernel⟩, List.mem_of_getElem? (i := 18) (by decide +kernel), List.mem_of_getElem? (i := 668) (by decide +kernel), List.mem_of_getElem? (i := 669) (by decide +kernel)⟩
theorem lw_p20 : lw_okq (⟨"SiltStore", "listThere", "(I)LSiltStore$Row;"⟩, 15) := ⟨⟨by decide +kernel, by decide +kernel⟩, List.mem_of_getElem? (i := 18) (by decide +kernel), List.mem_of_getElem? (i := 689) (by decide +kernel), List.mem_of_getElem? (i := 690) (by decide +kernel)⟩
theorem lw_p21 : lw_okq (⟨"SiltStore", "digestRun", "(JI)J"⟩, 15) := ⟨⟨by decide +kernel, by decide +kernel⟩, List.mem_of_getElem? (i := 18) (by decide +kernel), List.mem_of_getElem? (i := 769) (by decide +kernel), List.mem_of_getElem? (i := 770) (by decide +kernel)⟩
theorem lw_p22 : lw_okq (⟨"SiltStore", "numberOf", "(II)I"⟩, 15) := ⟨⟨by decide +kernel, by decide +kernel⟩, List.mem_of_getElem? (i := 18) (by decide +kernel), List.mem_of_getElem? (i := 807) (by decide +kernel), List.mem_of_getElem? (i := 808) (by decide +kernel)⟩
def lw_privs_2 : List (MethodName × Nat) := [(⟨"SiltStore", "lookInRuns", "(IILSiltStore$Row;)I"⟩, 15), (⟨"SiltStore", "lookInRun", "(IIILSiltStore$Row;)I"⟩, 15), (⟨"SiltStore$Shelf", "filterOf", "(I)J"⟩, 8), (⟨"SiltStore", "valueOf", "(I)I"⟩, 15), (⟨"SiltStore", "listThere", "(I)LSiltStore$Row;"⟩, 15), (⟨"SiltStore", "digestRun", "(JI)J"⟩, 15), (⟨"SiltStore", "numberOf", "(II)I"⟩, 15)]
theorem lw_r2 : ∀ q ∈ lw_privs_2, lw_okq q := List.forall_mem_cons.mpr ⟨lw_p16, List.forall_mem_cons.mpr ⟨lw_p17, List.forall_mem_cons.mpr ⟨lw_p18, List.forall_mem_cons.mpr ⟨lw_p19, List.forall_mem_cons.mpr ⟨lw_p20, List.forall_mem_cons.mpr ⟨lw_p21, List.forall_mem_cons.mpr ⟨lw_p22, fun _ h => absurd h List.not_mem_nil⟩⟩⟩⟩⟩⟩⟩
def lw_privs : List (MethodName × Nat) := lw_privs_1 ++ (lw_privs_2)
def lw_tbl : List Cond := k2_sels lw_privs ++ tables_1
theorem lw_privs_ok : ∀ q ∈ lw_privs, lw_okq q := by
  show ∀ q ∈ lw_privs_1 ++ (lw_privs_2), lw_okq q
  exact List.forall_mem_append.mpr ⟨lw_r1, lw_r2⟩
/-- the streams that the claim lets the run draw from -/
abbrev lw_cs : List Choice := [Jvm.Choice.named "NaN.bits"]
theorem lw_bits : nanBits ∈ lw_cs := by first | decide | exact List.mem_cons_self | simp [lw_cs, nanBits]
-- ===== end of PART A; then your names; then what follows =====
end
section
def RX0 : String := "SiltStore$Hand"
def TX0 : u_T := fun k => match k with
  | 0 => ("SiltStore$Hand", "held", "LSiltStore$Row;", true)
  | 1 => ("SiltStore$Hand", "written", "LSiltStore$Row;", true)
  | _ => ("SiltStore$Hand", "safe", "I", false)
def tyX0 : Nat → FieldType := fun k => match k with
  | 0 => .object "SiltStore$Row"
  | 1 => .object "SiltStore$Row"
  | _ => .int
abbrev wsX00 : List Cond := u_ws RX0 TX0 3
theorem nmX0 : ∀ a, a < 3 → ∀ b, b < 3 → a ≠ b → (TX0 a).2.1 ≠ (TX0 b).2.1 := by decide +kernel
theorem tyX0_ok : ∀ k, k < 3 → parseFieldDescriptor (TX0 k).2.2.1 = some (tyX0 k) := by decide +kernel
abbrev cX0_init : ByteArray := prog_2_method_1_code
def yX0_init : MethodName := ⟨RX0, "<init>", "()V"⟩
abbrev cX0_unsafeWrites : ByteArray := prog_2_method_2_code
def yX0_unsafeWrites : MethodName := ⟨RX0, "unsafeWrites", "()I"⟩
abbrev cX0_makeSafe : ByteArray := prog_2_method_3_code
def yX0_makeSafe : MethodName := ⟨RX0, "makeSafe", "()V"⟩
abbrev cX0_loseUnsafe : ByteArray := prog_2_method_4_code
def yX0_loseUnsafe : MethodName := ⟨RX0, "loseUnsafe", "()V"⟩
abbrev cX0_empty : ByteArray := prog_2_method_5_code
def yX0_empty : MethodName := ⟨RX0, "empty", "()V"⟩
def RX1 : String := "SiltStore$Ledger"
def TX1 : u_T := fun k => match k with
  | 0 => ("SiltStore$Ledger", "keyOf", "LSiltStore$Row;", true)
  | 1 => ("SiltStore$Ledger", "valueOf", "LSiltStore$Row;", true)
  | _ => ("SiltStore$Ledger", "order", "LSiltStore$Row;", true)
def tyX1 : Nat → FieldType := fun k => match k with
  | 0 => .object "SiltStore$Row"
  | 1 => .object "SiltStore$Row"
  | _ => .object "SiltStore$Row"
abbrev wsX10 : List Cond := u_ws RX1 TX1 3
theorem nmX1 : ∀ a, a < 3 → ∀ b, b < 3 → a ≠ b → (TX1 a).2.1 ≠ (TX1 b).2.1 := by decide +kernel
theorem tyX1_ok : ∀ k, k < 3 → parseFieldDescriptor (TX1 k).2.2.1 = some (tyX1 k) := by decide +kernel
abbrev cX1_init : ByteArray := prog_3_method_1_code
def yX1_init : MethodName := ⟨RX1, "<init>", "()V"⟩
abbrev cX1_isFull : ByteArray := prog_3_method_2_code
def yX1_isFull : MethodName := ⟨RX1, "isFull", "()Z"⟩
abbrev cX1_newest : ByteArray := prog_3_method_3_code
def yX1_newest : MethodName := ⟨RX1, "newest", "()I"⟩
abbrev cX1_key : ByteArray := prog_3_method_4_code
def yX1_key : MethodName := ⟨RX1, "key", "(I)I"⟩
abbrev cX1_value : ByteArray := prog_3_method_5_code
def yX1_value : MethodName := ⟨RX1, "value", "(I)I"⟩
abbrev cX1_isStone : ByteArray := prog_3_method_6_code
def yX1_isStone : MethodName := ⟨RX1, "isStone", "(I)Z"⟩
abbrev cX1_note : ByteArray := prog_3_method_7_code
def yX1_note : MethodName := ⟨RX1, "note", "(II)I"⟩
abbrev cX1_find : ByteArray := prog_3_method_8_code
def yX1_find : MethodName := ⟨RX1, "find", "(LSiltStore$Row;IIII)I"⟩
def RX2 : String := "SiltStore$Pile"
def TX2 : u_T := fun k => match k with
  | 0 => ("SiltStore$Pile", "ledger", "LSiltStore$Ledger;", true)
  | 1 => ("SiltStore$Pile", "views", "LSiltStore$Snapshots;", true)
  | 2 => ("SiltStore$Pile", "gathered", "LSiltStore$Row;", true)
  | _ => ("SiltStore$Pile", "left", "LSiltStore$Row;", true)
def tyX2 : Nat → FieldType := fun k => match k with
  | 0 => .object "SiltStore$Ledger"
  | 1 => .object "SiltStore$Snapshots"
  | 2 => .object "SiltStore$Row"
  | _ => .object "SiltStore$Row"
abbrev wsX20 : List Cond := u_ws RX2 TX2 4
theorem nmX2 : ∀ a, a < 4 → ∀ b, b < 4 → a ≠ b → (TX2 a).2.1 ≠ (TX2 b).2.1 := by decide +kernel
theorem tyX2_ok : ∀ k, k < 4 → parseFieldDescriptor (TX2 k).2.2.1 = some (tyX2 k) := by decide +kernel
abbrev cX2_init : ByteArray := prog_4_method_1_code
def yX2_init : MethodName := ⟨RX2, "<init>", "(LSiltStore$Ledger;LSiltStore$Snapshots;)V"⟩
abbrev cX2_begin : ByteArray := prog_4_method_2_code
def yX2_begin : MethodName := ⟨RX2, "begin", "()V"⟩
abbrev cX2_gather : ByteArray := prog_4_method_3_code
def yX2_gather : MethodName := ⟨RX2, "gather", "(LSiltStore$Row;II)V"⟩
abbrev cX2_keepNeeded : ByteArray := prog_4_method_4_code
def yX2_keepNeeded : MethodName := ⟨RX2, "keepNeeded", "()V"⟩
abbrev cX2_keepThere : ByteArray := prog_4_method_5_code
def yX2_keepThere : MethodName := ⟨RX2, "keepThere", "(I)V"⟩
abbrev cX2_dropStones : ByteArray := prog_4_method_6_code
def yX2_dropStones : MethodName := ⟨RX2, "dropStones", "(LSiltStore$Row;I)V"⟩
abbrev cX2_pieceEnd : ByteArray := prog_4_method_7_code
def yX2_pieceEnd : MethodName := ⟨RX2, "pieceEnd", "(II)I"⟩
def RX3 : String := "SiltStore$Row"
def TX3 : u_T := fun k => match k with
  | 0 => ("SiltStore$Row", "cells", "[I", true)
  | _ => ("SiltStore$Row", "used", "I", false)
def tyX3 : Nat → FieldType := fun k => match k with
  | 0 => .array .int
  | _ => .int
abbrev wsX30 : List Cond := u_ws RX3 TX3 2
theorem nmX3 : ∀ a, a < 2 → ∀ b, b < 2 → a ≠ b → (TX3 a).2.1 ≠ (TX3 b).2.1 := by decide +kernel
theorem tyX3_ok : ∀ k, k < 2 → parseFieldDescriptor (TX3 k).2.2.1 = some (tyX3 k) := by decide +kernel
abbrev cX3_init : ByteArray := prog_5_method_1_code
def yX3_init : MethodName := ⟨RX3, "<init>", "(I)V"⟩
abbrev cX3_length : ByteArray := prog_5_method_2_code
def yX3_length : MethodName := ⟨RX3, "length", "()I"⟩
abbrev cX3_at : ByteArray := prog_5_method_3_code
def yX3_at : MethodName := ⟨RX3, "at", "(I)I"⟩
abbrev cX3_write : ByteArray := prog_5_method_4_code
def yX3_write : MethodName := ⟨RX3, "write", "(II)V"⟩
abbrev cX3_raise : ByteArray := prog_5_method_5_code
def yX3_raise : MethodName := ⟨RX3, "raise", "(II)V"⟩
abbrev cX3_append : ByteArray := prog_5_method_6_code
def yX3_append : MethodName := ⟨RX3, "append", "(I)V"⟩
abbrev cX3_open : ByteArray := prog_5_method_7_code
def yX3_open : MethodName := ⟨RX3, "open", "(II)V"⟩
abbrev cX3_cut : ByteArray := prog_5_method_8_code
def yX3_cut : MethodName := ⟨RX3, "cut", "(II)V"⟩
abbrev cX3_copy : ByteArray := prog_5_method_9_code
def yX3_copy : MethodName := ⟨RX3, "copy", "(LSiltStore$Row;)V"⟩
abbrev cX3_empty : ByteArray := prog_5_method_10_code
def yX3_empty : MethodName := ⟨RX3, "empty", "()V"⟩
abbrev cX3_wipe : ByteArray := prog_5_method_11_code
def yX3_wipe : MethodName := ⟨RX3, "wipe", "()V"⟩
def RX4 : String := "SiltStore$Shelf"
def TX4 : u_T := fun k => match k with
  | 0 => ("SiltStore$Shelf", "ledger", "LSiltStore$Ledger;", true)
  | 1 => ("SiltStore$Shelf", "ages", "LSiltStore$Row;", true)
  | 2 => ("SiltStore$Shelf", "ends", "LSiltStore$Row;", true)
  | 3 => ("SiltStore$Shelf", "bits", "LSiltStore$Row;", true)
  | 4 => ("SiltStore$Shelf", "hashes", "LSiltStore$Row;", true)
  | 5 => ("SiltStore$Shelf", "lowBits", "LSiltStore$Row;", true)
  | 6 => ("SiltStore$Shelf", "highBits", "LSiltStore$Row;", true)
  | _ => ("SiltStore$Shelf", "counts", "LSiltStore$Row;", true)
def tyX4 : Nat → FieldType := fun k => match k with
  | 0 => .object "SiltStore$Ledger"
  | 1 => .object "SiltStore$Row"
  | 2 => .object "SiltStore$Row"
  | 3 => .object "SiltStore$Row"
  | 4 => .object "SiltStore$Row"
  | 5 => .object "SiltStore$Row"
  | 6 => .object "SiltStore$Row"
  | _ => .object "SiltStore$Row"
abbrev wsX40 : List Cond := u_ws RX4 TX4 8
theorem nmX4 : ∀ a, a < 8 → ∀ b, b < 8 → a ≠ b → (TX4 a).2.1 ≠ (TX4 b).2.1 := by decide +kernel
theorem tyX4_ok : ∀ k, k < 8 → parseFieldDescriptor (TX4 k).2.2.1 = some (tyX4 k) := by decide +kernel
abbrev cX4_init : ByteArray := prog_6_method_1_code
def yX4_init : MethodName := ⟨RX4, "<init>", "(LSiltStore$Ledger;)V"⟩
abbrev cX4_total : ByteArray := prog_6_method_2_code
def yX4_total : MethodName := ⟨RX4, "total", "()I"⟩
abbrev cX4_count : ByteArray := prog_6_method_3_code
def yX4_count : MethodName := ⟨RX4, "count", "(I)I"⟩
abbrev cX4_first : ByteArray := prog_6_method_4_code
def yX4_first : MethodName := ⟨RX4, "first", "(I)I"⟩
abbrev cX4_begin : ByteArray := prog_6_method_5_code
def yX4_begin : MethodName := ⟨RX4, "begin", "(I)I"⟩
abbrev cX4_length : ByteArray := prog_6_method_6_code
def yX4_length : MethodName := ⟨RX4, "length", "(I)I"⟩
abbrev cX4_entriesOn : ByteArray := prog_6_method_7_code
def yX4_entriesOn : MethodName := ⟨RX4, "entriesOn", "(I)I"⟩
abbrev cX4_age : ByteArray := prog_6_method_8_code
def yX4_age : MethodName := ⟨RX4, "age", "(II)I"⟩
abbrev cX4_least : ByteArray := prog_6_method_9_code
def yX4_least : MethodName := ⟨RX4, "least", "(I)I"⟩
abbrev cX4_greatest : ByteArray := prog_6_method_10_code
def yX4_greatest : MethodName := ⟨RX4, "greatest", "(I)I"⟩
abbrev cX4_spans : ByteArray := prog_6_method_11_code
def yX4_spans : MethodName := ⟨RX4, "spans", "(II)Z"⟩
abbrev cX4_find : ByteArray := prog_6_method_12_code
def yX4_find : MethodName := ⟨RX4, "find", "(III)I"⟩
abbrev cX4_leastOf : ByteArray := prog_6_method_13_code
def yX4_leastOf : MethodName := ⟨RX4, "leastOf", "(II)I"⟩
abbrev cX4_greatestOf : ByteArray := prog_6_method_14_code
def yX4_greatestOf : MethodName := ⟨RX4, "greatestOf", "(II)I"⟩
abbrev cX4_firstBeyond : ByteArray := prog_6_method_15_code
def yX4_firstBeyond : MethodName := ⟨RX4, "firstBeyond", "(II)I"⟩
abbrev cX4_firstReaching : ByteArray := prog_6_method_16_code
def yX4_firstReaching : MethodName := ⟨RX4, "firstReaching", "(II)I"⟩
abbrev cX4_insert : ByteArray := prog_6_method_17_code
def yX4_insert : MethodName := ⟨RX4, "insert", "(IILSiltStore$Row;IIII)V"⟩
abbrev cX4_openRun : ByteArray := prog_6_method_18_code
def yX4_openRun : MethodName := ⟨RX4, "openRun", "(I)V"⟩
abbrev cX4_cut : ByteArray := prog_6_method_19_code
def yX4_cut : MethodName := ⟨RX4, "cut", "(III)V"⟩
abbrev cX4_setBits : ByteArray := prog_6_method_20_code
def yX4_setBits : MethodName := ⟨RX4, "setBits", "(I)I"⟩
abbrev cX4_passes : ByteArray := prog_6_method_21_code
def yX4_passes : MethodName := ⟨RX4, "passes", "(II)Z"⟩
abbrev cX4_filterOf : ByteArray := prog_6_method_22_code
def yX4_filterOf : MethodName := ⟨RX4, "filterOf", "(I)J"⟩
abbrev cX4_bitsOf : ByteArray := prog_6_method_23_code
def yX4_bitsOf : MethodName := ⟨RX4, "bitsOf", "(III)J"⟩
def RX5 : String := "SiltStore$Snapshots"
def TX5 : u_T := fun k => match k with
  | 0 => ("SiltStore$Snapshots", "numbers", "LSiltStore$Row;", true)
  | 1 => ("SiltStore$Snapshots", "ages", "LSiltStore$Row;", true)
  | _ => ("SiltStore$Snapshots", "taken", "I", false)
def tyX5 : Nat → FieldType := fun k => match k with
  | 0 => .object "SiltStore$Row"
  | 1 => .object "SiltStore$Row"
  | _ => .int
abbrev wsX50 : List Cond := u_ws RX5 TX5 3
theorem nmX5 : ∀ a, a < 3 → ∀ b, b < 3 → a ≠ b → (TX5 a).2.1 ≠ (TX5 b).2.1 := by decide +kernel
theorem tyX5_ok : ∀ k, k < 3 → parseFieldDescriptor (TX5 k).2.2.1 = some (tyX5 k) := by decide +kernel
abbrev cX5_init : ByteArray := prog_7_method_1_code
def yX5_init : MethodName := ⟨RX5, "<init>", "()V"⟩
abbrev cX5_there : ByteArray := prog_7_method_2_code
def yX5_there : MethodName := ⟨RX5, "there", "()I"⟩
abbrev cX5_age : ByteArray := prog_7_method_3_code
def yX5_age : MethodName := ⟨RX5, "age", "(I)I"⟩
abbrev cX5_take : ByteArray := prog_7_method_4_code
def yX5_take : MethodName := ⟨RX5, "take", "(I)I"⟩
abbrev cX5_placeOf : ByteArray := prog_7_method_5_code
def yX5_placeOf : MethodName := ⟨RX5, "placeOf", "(I)I"⟩
abbrev cX5_letGo : ByteArray := prog_7_method_6_code
def yX5_letGo : MethodName := ⟨RX5, "letGo", "(I)V"⟩
abbrev cX5_loseAll : ByteArray := prog_7_method_7_code
def yX5_loseAll : MethodName := ⟨RX5, "loseAll", "()V"⟩
abbrev cX5_see : ByteArray := prog_7_method_8_code
def yX5_see : MethodName := ⟨RX5, "see", "(II)Z"⟩
def RX6 : String := "SiltStore"
def TX6 : u_T := fun k => match k with
  | 0 => ("SiltStore", "room", "I", false)
  | 1 => ("SiltStore", "way", "I", false)
  | 2 => ("SiltStore", "fan", "I", false)
  | 3 => ("SiltStore", "piece", "I", false)
  | 4 => ("SiltStore", "bits", "I", false)
  | 5 => ("SiltStore", "hashes", "I", false)
  | 6 => ("SiltStore", "every", "I", false)
  | 7 => ("SiltStore", "tally", "LSiltStore$Row;", true)
  | 8 => ("SiltStore", "trial", "LSiltStore$Row;", true)
  | 9 => ("SiltStore", "marks", "LSiltStore$Row;", true)
  | 10 => ("SiltStore", "front", "LSiltStore$Hand;", true)
  | 11 => ("SiltStore", "ledger", "LSiltStore$Ledger;", true)
  | 12 => ("SiltStore", "views", "LSiltStore$Snapshots;", true)
  | 13 => ("SiltStore", "shelf", "LSiltStore$Shelf;", true)
  | _ => ("SiltStore", "pile", "LSiltStore$Pile;", true)
def tyX6 : Nat → FieldType := fun k => match k with
  | 0 => .int
  | 1 => .int
  | 2 => .int
  | 3 => .int
  | 4 => .int
  | 5 => .int
  | 6 => .int
  | 7 => .object "SiltStore$Row"
  | 8 => .object "SiltStore$Row"
  | 9 => .object "SiltStore$Row"
  | 10 => .object "SiltStore$Hand"
  | 11 => .object "SiltStore$Ledger"
  | 12 => .object "SiltStore$Snapshots"
  | 13 => .object "SiltStore$Shelf"
  | _ => .object "SiltStore$Pile"
abbrev wsX60 : List Cond := u_ws RX6 TX6 15
theorem nmX6 : ∀ a, a < 15 → ∀ b, b < 15 → a ≠ b → (TX6 a).2.1 ≠ (TX6 b).2.1 := by decide +kernel
theorem tyX6_ok : ∀ k, k < 15 → parseFieldDescriptor (TX6 k).2.2.1 = some (tyX6 k) := by decide +kernel
abbrev cX6_init : ByteArray := prog_1_method_1_code
def yX6_init : MethodName := ⟨RX6, "<init>", "()V"⟩
abbrev cX6_setRoom : ByteArray := prog_1_method_2_code
def yX6_setRoom : MethodName := ⟨RX6, "setRoom", "(I)I"⟩
abbrev cX6_setWay : ByteArray := prog_1_method_3_code
def yX6_setWay : MethodName := ⟨RX6, "setWay", "(III)I"⟩
abbrev cX6_setFilter : ByteArray := prog_1_method_4_code
def yX6_setFilter : MethodName := ⟨RX6, "setFilter", "(II)I"⟩
abbrev cX6_setEvery : ByteArray := prog_1_method_5_code
def yX6_setEvery : MethodName := ⟨RX6, "setEvery", "(I)I"⟩
abbrev cX6_put : ByteArray := prog_1_method_6_code
def yX6_put : MethodName := ⟨RX6, "put", "(II)I"⟩
abbrev cX6_remove : ByteArray := prog_1_method_7_code
def yX6_remove : MethodName := ⟨RX6, "remove", "(I)I"⟩
abbrev cX6_flush : ByteArray := prog_1_method_9_code
def yX6_flush : MethodName := ⟨RX6, "flush", "()I"⟩
abbrev cX6_pack : ByteArray := prog_1_method_10_code
def yX6_pack : MethodName := ⟨RX6, "pack", "(I)I"⟩
abbrev cX6_crash : ByteArray := prog_1_method_11_code
def yX6_crash : MethodName := ⟨RX6, "crash", "()I"⟩
abbrev cX6_snap : ByteArray := prog_1_method_12_code
def yX6_snap : MethodName := ⟨RX6, "snap", "()I"⟩
abbrev cX6_release : ByteArray := prog_1_method_13_code
def yX6_release : MethodName := ⟨RX6, "release", "(I)I"⟩
abbrev cX6_get : ByteArray := prog_1_method_14_code
def yX6_get : MethodName := ⟨RX6, "get", "(I)I"⟩
abbrev cX6_getAt : ByteArray := prog_1_method_15_code
def yX6_getAt : MethodName := ⟨RX6, "getAt", "(II)I"⟩
abbrev cX6_next : ByteArray := prog_1_method_16_code
def yX6_next : MethodName := ⟨RX6, "next", "(I)I"⟩
abbrev cX6_sum : ByteArray := prog_1_method_18_code
def yX6_sum : MethodName := ⟨RX6, "sum", "(II)I"⟩
abbrev cX6_keys : ByteArray := prog_1_method_19_code
def yX6_keys : MethodName := ⟨RX6, "keys", "()I"⟩
abbrev cX6_hand : ByteArray := prog_1_method_20_code
def yX6_hand : MethodName := ⟨RX6, "hand", "()I"⟩
abbrev cX6_log : ByteArray := prog_1_method_21_code
def yX6_log : MethodName := ⟨RX6, "log", "()I"⟩
abbrev cX6_unsafe : ByteArray := prog_1_method_22_code
def yX6_unsafe : MethodName := ⟨RX6, ("un" ++ "safe"), "()I"⟩
abbrev cX6_snapshots : ByteArray := prog_1_method_23_code
def yX6_snapshots : MethodName := ⟨RX6, "snapshots", "()I"⟩
abbrev cX6_runs : ByteArray := prog_1_method_24_code
def yX6_runs : MethodName := ⟨RX6, "runs", "(I)I"⟩
abbrev cX6_size : ByteArray := prog_1_method_25_code
def yX6_size : MethodName := ⟨RX6, "size", "(II)I"⟩
abbrev cX6_entry : ByteArray := prog_1_method_26_code
def yX6_entry : MethodName := ⟨RX6, "entry", "(IIII)I"⟩
abbrev cX6_mayHave : ByteArray := prog_1_method_28_code
def yX6_mayHave : MethodName := ⟨RX6, "mayHave", "(III)Z"⟩
abbrev cX6_entries : ByteArray := prog_1_method_30_code
def yX6_entries : MethodName := ⟨RX6, "entries", "()I"⟩
abbrev cX6_stones : ByteArray := prog_1_method_31_code
def yX6_stones : MethodName := ⟨RX6, "stones", "()I"⟩
abbrev cX6_counted : ByteArray := prog_1_method_32_code
def yX6_counted : MethodName := ⟨RX6, "counted", "(I)I"⟩
abbrev cX6_amplification : ByteArray := prog_1_method_33_code
def yX6_amplification : MethodName := ⟨RX6, "amplification", "()D"⟩
abbrev cX6_cost : ByteArray := prog_1_method_34_code
def yX6_cost : MethodName := ⟨RX6, "cost", "(I)I"⟩
abbrev cX6_wouldSave : ByteArray := prog_1_method_35_code
def yX6_wouldSave : MethodName := ⟨RX6, "wouldSave", "(I)I"⟩
abbrev cX6_getSafe : ByteArray := prog_1_method_36_code
def yX6_getSafe : MethodName := ⟨RX6, "getSafe", "(I)I"⟩
abbrev cX6_digest : ByteArray := prog_1_method_37_code
def yX6_digest : MethodName := ⟨RX6, "digest", "()J"⟩
abbrev cX6_digestRun : ByteArray := prog_1_method_38_code
def yX6_digestRun : MethodName := ⟨RX6, "digestRun", "(JI)J"⟩
abbrev cX6_checkKey : ByteArray := prog_1_method_39_code
def yX6_checkKey : MethodName := ⟨RX6, "checkKey", "(I)V"⟩
abbrev cX6_checkKeys : ByteArray := prog_1_method_40_code
def yX6_checkKeys : MethodName := ⟨RX6, "checkKeys", "(II)V"⟩
abbrev cX6_checkLevel : ByteArray := prog_1_method_41_code
def yX6_checkLevel : MethodName := ⟨RX6, "checkLevel", "(I)V"⟩
abbrev cX6_numberOf : ByteArray := prog_1_method_42_code
def yX6_numberOf : MethodName := ⟨RX6, "numberOf", "(II)I"⟩
abbrev cX6_placeOfSnapshot : ByteArray := prog_1_method_43_code
def yX6_placeOfSnapshot : MethodName := ⟨RX6, "placeOfSnapshot", "(I)I"⟩
abbrev cX6_write : ByteArray := prog_1_method_44_code
def yX6_write : MethodName := ⟨RX6, "write", "(II)I"⟩
abbrev cX6_fillHand : ByteArray := prog_1_method_45_code
def yX6_fillHand : MethodName := ⟨RX6, "fillHand", "()V"⟩
abbrev cX6_layHand : ByteArray := prog_1_method_46_code
def yX6_layHand : MethodName := ⟨RX6, "layHand", "()V"⟩
abbrev cX6_settle : ByteArray := prog_1_method_47_code
def yX6_settle : MethodName := ⟨RX6, "settle", "()V"⟩
abbrev cX6_firstFull : ByteArray := prog_1_method_48_code
def yX6_firstFull : MethodName := ⟨RX6, "firstFull", "()I"⟩
abbrev cX6_isFull : ByteArray := prog_1_method_49_code
def yX6_isFull : MethodName := ⟨RX6, "isFull", "(I)Z"⟩
abbrev cX6_takeLevel : ByteArray := prog_1_method_50_code
def yX6_takeLevel : MethodName := ⟨RX6, "takeLevel", "(I)I"⟩
abbrev cX6_takePart : ByteArray := prog_1_method_51_code
def yX6_takePart : MethodName := ⟨RX6, "takePart", "(I)I"⟩
abbrev cX6_takeRuns : ByteArray := prog_1_method_52_code
def yX6_takeRuns : MethodName := ⟨RX6, "takeRuns", "(III)V"⟩
abbrev cX6_firstPacked : ByteArray := prog_1_method_53_code
def yX6_firstPacked : MethodName := ⟨RX6, "firstPacked", "(I)I"⟩
abbrev cX6_planPack : ByteArray := prog_1_method_54_code
def yX6_planPack : MethodName := ⟨RX6, "planPack", "(I)I"⟩
abbrev cX6_layPile : ByteArray := prog_1_method_55_code
def yX6_layPile : MethodName := ⟨RX6, "layPile", "(II)V"⟩
abbrev cX6_valueOf : ByteArray := prog_1_method_56_code
def yX6_valueOf : MethodName := ⟨RX6, "valueOf", "(I)I"⟩
abbrev cX6_lookUp : ByteArray := prog_1_method_57_code
def yX6_lookUp : MethodName := ⟨RX6, "lookUp", "(IILSiltStore$Row;)I"⟩
abbrev cX6_lookInRuns : ByteArray := prog_1_method_58_code
def yX6_lookInRuns : MethodName := ⟨RX6, "lookInRuns", "(IILSiltStore$Row;)I"⟩
abbrev cX6_lookInRun : ByteArray := prog_1_method_59_code
def yX6_lookInRun : MethodName := ⟨RX6, "lookInRun", "(IIILSiltStore$Row;)I"⟩
abbrev cX6_listThere : ByteArray := prog_1_method_60_code
def yX6_listThere : MethodName := ⟨RX6, "listThere", "(I)LSiltStore$Row;"⟩
def RJ13 : String := "java/lang/Long"
def TJ13 : u_T := fun k => match k with
  | _ => ("", "", "", false)
def tyJ13 : Nat → FieldType := fun k => match k with
  | _ => .int
abbrev wsJ130 : List Cond := u_ws RJ13 TJ13 0
theorem nmJ13 : ∀ a, a < 0 → ∀ b, b < 0 → a ≠ b → (TJ13 a).2.1 ≠ (TJ13 b).2.1 := by decide +kernel
theorem tyJ13_ok : ∀ k, k < 0 → parseFieldDescriptor (TJ13 k).2.2.1 = some (tyJ13 k) := by decide +kernel
abbrev cJ13_bitCount_95d88 : ByteArray := prog_15_method_50_code
def yJ13_bitCount_95d88 : MethodName := ⟨RJ13, "bitCount", "(J)I"⟩
theorem dX0_init_0 : decode cX0_init 0 = .ok (.aload_n 0, 1) := by decide +kernel
theorem dX0_init_1 : decode cX0_init 1 = .ok (.invokespecial 3, 3) := by decide +kernel
theorem dX0_init_4 : decode cX0_init 4 = .ok (.aload_n 0, 1) := by decide +kernel
theorem dX0_init_5 : decode cX0_init 5 = .ok (.new 9, 3) := by decide +kernel
theorem dX0_init_8 : decode cX0_init 8 = .ok (.dup, 1) := by decide +kernel
theorem dX0_init_9 : decode cX0_init 9 = .ok (.bipush 40, 2) := by decide +kernel
theorem dX0_init_11 : decode cX0_init 11 = .ok (.invokespecial 11, 3) := by decide +kernel
theorem dX0_init_14 : decode cX0_init 14 = .ok (.putfield 14, 3) := by decide +kernel
theorem dX0_init_17 : decode cX0_init 17 = .ok (.aload_n 0, 1) := by decide +kernel
theorem dX0_init_18 : decode cX0_init 18 = .ok (.new 9, 3) := by decide +kernel
theorem dX0_init_21 : decode cX0_init 21 = .ok (.dup, 1) := by decide +kernel
theorem dX0_init_22 : decode cX0_init 22 = .ok (.bipush 40, 2) := by decide +kernel
theorem dX0_init_24 : decode cX0_init 24 = .ok (.invokespecial 11, 3) := by decide +kernel
theorem dX0_init_27 : decode cX0_init 27 = .ok (.putfield 20, 3) := by decide +kernel
theorem dX0_init_30 : decode cX0_init 30 = .ok (.return_, 1) := by decide +kernel
theorem dX0_unsafeWrites_0 : decode cX0_unsafeWrites 0 = .ok (.aload_n 0, 1) := by decide +kernel
theorem dX0_unsafeWrites_1 : decode cX0_unsafeWrites 1 = .ok (.getfield 20, 3) := by decide +kernel
theorem dX0_unsafeWrites_4 : decode cX0_unsafeWrites 4 = .ok (.invokevirtual 23, 3) := by decide +kernel
theorem dX0_unsafeWrites_7 : decode cX0_unsafeWrites 7 = .ok (.aload_n 0, 1) := by decide +kernel
theorem dX0_unsafeWrites_8 : decode cX0_unsafeWrites 8 = .ok (.getfield 27, 3) := by decide +kernel
theorem dX0_unsafeWrites_11 : decode cX0_unsafeWrites 11 = .ok (.isub, 1) := by decide +kernel
theorem dX0_unsafeWrites_12 : decode cX0_unsafeWrites 12 = .ok (.ireturn, 1) := by decide +kernel
theorem dX0_makeSafe_0 : decode cX0_makeSafe 0 = .ok (.aload_n 0, 1) := by decide +kernel
theorem dX0_makeSafe_1 : decode cX0_makeSafe 1 = .ok (.aload_n 0, 1) := by decide +kernel
theorem dX0_makeSafe_2 : decode cX0_makeSafe 2 = .ok (.getfield 20, 3) := by decide +kernel
theorem dX0_makeSafe_5 : decode cX0_makeSafe 5 = .ok (.invokevirtual 23, 3) := by decide +kernel
theorem dX0_makeSafe_8 : decode cX0_makeSafe 8 = .ok (.putfield 27, 3) := by decide +kernel
theorem dX0_makeSafe_11 : decode cX0_makeSafe 11 = .ok (.return_, 1) := by decide +kernel
theorem dX0_loseUnsafe_0 : decode cX0_loseUnsafe 0 = .ok (.aload_n 0, 1) := by decide +kernel
theorem dX0_loseUnsafe_1 : decode cX0_loseUnsafe 1 = .ok (.getfield 20, 3) := by decide +kernel
theorem dX0_loseUnsafe_4 : decode cX0_loseUnsafe 4 = .ok (.aload_n 0, 1) := by decide +kernel
theorem dX0_loseUnsafe_5 : decode cX0_loseUnsafe 5 = .ok (.getfield 27, 3) := by decide +kernel
theorem dX0_loseUnsafe_8 : decode cX0_loseUnsafe 8 = .ok (.aload_n 0, 1) := by decide +kernel
theorem dX0_loseUnsafe_9 : decode cX0_loseUnsafe 9 = .ok (.getfield 20, 3) := by decide +kernel
theorem dX0_loseUnsafe_12 : decode cX0_loseUnsafe 12 = .ok (.invokevirtual 23, 3) := by decide +kernel
theorem dX0_loseUnsafe_15 : decode cX0_loseUnsafe 15 = .ok (.invokevirtual 31, 3) := by decide +kernel
theorem dX0_loseUnsafe_18 : decode cX0_loseUnsafe 18 = .ok (.return_, 1) := by decide +kernel
theorem dX0_empty_0 : decode cX0_empty 0 = .ok (.aload_n 0, 1) := by decide +kernel
theorem dX0_empty_1 : decode cX0_empty 1 = .ok (.getfield 14, 3) := by decide +kernel
theorem dX0_empty_4 : decode cX0_empty 4 = .ok (.invokevirtual 35, 3) := by decide +kernel
theorem dX0_empty_7 : decode cX0_empty 7 = .ok (.aload_n 0, 1) := by decide +kernel
theorem dX0_empty_8 : decode cX0_empty 8 = .ok (.getfield 20, 3) := by decide +kernel
theorem dX0_empty_11 : decode cX0_empty 11 = .ok (.invokevirtual 35, 3) := by decide +kernel
theorem dX0_empty_14 : decode cX0_empty 14 = .ok (.aload_n 0, 1) := by decide +kernel
theorem dX0_empty_15 : decode cX0_empty 15 = .ok (.iconst 0, 1) := by decide +kernel
theorem dX0_empty_16 : decode cX0_empty 16 = .ok (.putfield 27, 3) := by decide +kernel
theorem dX0_empty_19 : decode cX0_empty 19 = .ok (.return_, 1) := by decide +kernel
theorem dX1_init_0 : decode cX1_init 0 = .ok (.aload_n 0, 1) := by decide +kernel
theorem dX1_init_1 : decode cX1_init 1 = .ok (.invokespecial 3, 3) := by decide +kernel
theorem dX1_init_4 : decode cX1_init 4 = .ok (.aload_n 0, 1) := by decide +kernel
theorem dX1_init_5 : decode cX1_init 5 = .ok (.new 9, 3) := by decide +kernel
theorem dX1_init_8 : decode cX1_init 8 = .ok (.dup, 1) := by decide +kernel
theorem dX1_init_9 : decode cX1_init 9 = .ok (.sipush 513, 3) := by decide +kernel
theorem dX1_init_12 : decode cX1_init 12 = .ok (.invokespecial 11, 3) := by decide +kernel
theorem dX1_init_15 : decode cX1_init 15 = .ok (.putfield 14, 3) := by decide +kernel
theorem dX1_init_18 : decode cX1_init 18 = .ok (.aload_n 0, 1) := by decide +kernel
theorem dX1_init_19 : decode cX1_init 19 = .ok (.new 9, 3) := by decide +kernel
theorem dX1_init_22 : decode cX1_init 22 = .ok (.dup, 1) := by decide +kernel
theorem dX1_init_23 : decode cX1_init 23 = .ok (.sipush 513, 3) := by decide +kernel
theorem dX1_init_26 : decode cX1_init 26 = .ok (.invokespecial 11, 3) := by decide +kernel
theorem dX1_init_29 : decode cX1_init 29 = .ok (.putfield 20, 3) := by decide +kernel
theorem dX1_init_32 : decode cX1_init 32 = .ok (.aload_n 0, 1) := by decide +kernel
theorem dX1_init_33 : decode cX1_init 33 = .ok (.new 9, 3) := by decide +kernel
theorem dX1_init_36 : decode cX1_init 36 = .ok (.dup, 1) := by decide +kernel
theorem dX1_init_37 : decode cX1_init 37 = .ok (.sipush 512, 3) := by decide +kernel
theorem dX1_init_40 : decode cX1_init 40 = .ok (.invokespecial 11, 3) := by decide +kernel
theorem dX1_init_43 : decode cX1_init 43 = .ok (.putfield 23, 3) := by decide +kernel
theorem dX1_init_46 : decode cX1_init 46 = .ok (.return_, 1) := by decide +kernel
theorem dX1_isFull_0 : decode cX1_isFull 0 = .ok (.aload_n 0, 1) := by decide +kernel
theorem dX1_isFull_1 : decode cX1_isFull 1 = .ok (.getfield 23, 3) := by decide +kernel
theorem dX1_isFull_4 : decode cX1_isFull 4 = .ok (.invokevirtual 26, 3) := by decide +kernel
theorem dX1_isFull_7 : decode cX1_isFull 7 = .ok (.sipush 512, 3) := by decide +kernel
theorem dX1_isFull_10 : decode cX1_isFull 10 = .ok (.if_icmp .lt 7, 3) := by decide +kernel
theorem dX1_isFull_13 : decode cX1_isFull 13 = .ok (.iconst 1, 1) := by decide +kernel
theorem dX1_isFull_14 : decode cX1_isFull 14 = .ok (.goto 4, 3) := by decide +kernel
theorem dX1_isFull_17 : decode cX1_isFull 17 = .ok (.iconst 0, 1) := by decide +kernel
theorem dX1_isFull_18 : decode cX1_isFull 18 = .ok (.ireturn, 1) := by decide +kernel
theorem dX1_newest_0 : decode cX1_newest 0 = .ok (.aload_n 0, 1) := by decide +kernel
theorem dX1_newest_1 : decode cX1_newest 1 = .ok (.getfield 23, 3) := by decide +kernel
theorem dX1_newest_4 : decode cX1_newest 4 = .ok (.invokevirtual 26, 3) := by decide +kernel
theorem dX1_newest_7 : decode cX1_newest 7 = .ok (.ireturn, 1) := by decide +kernel
theorem dX1_key_0 : decode cX1_key 0 = .ok (.aload_n 0, 1) := by decide +kernel
theorem dX1_key_1 : decode cX1_key 1 = .ok (.getfield 14, 3) := by decide +kernel
theorem dX1_key_4 : decode cX1_key 4 = .ok (.iload_n 1, 1) := by decide +kernel
theorem dX1_key_5 : decode cX1_key 5 = .ok (.invokevirtual 30, 3) := by decide +kernel
theorem dX1_key_8 : decode cX1_key 8 = .ok (.ireturn, 1) := by decide +kernel
theorem dX1_value_0 : decode cX1_value 0 = .ok (.aload_n 0, 1) := by decide +kernel
theorem dX1_value_1 : decode cX1_value 1 = .ok (.getfield 20, 3) := by decide +kernel
theorem dX1_value_4 : decode cX1_value 4 = .ok (.iload_n 1, 1) := by decide +kernel
theorem dX1_value_5 : decode cX1_value 5 = .ok (.invokevirtual 30, 3) := by decide +kernel
theorem dX1_value_8 : decode cX1_value 8 = .ok (.ireturn, 1) := by decide +kernel
theorem dX1_isStone_0 : decode cX1_isStone 0 = .ok (.aload_n 0, 1) := by decide +kernel
theorem dX1_isStone_1 : decode cX1_isStone 1 = .ok (.getfield 20, 3) := by decide +kernel
theorem dX1_isStone_4 : decode cX1_isStone 4 = .ok (.iload_n 1, 1) := by decide +kernel
theorem dX1_isStone_5 : decode cX1_isStone 5 = .ok (.invokevirtual 30, 3) := by decide +kernel
theorem dX1_isStone_8 : decode cX1_isStone 8 = .ok (.iconst (-1), 1) := by decide +kernel
theorem dX1_isStone_9 : decode cX1_isStone 9 = .ok (.if_icmp .ne 7, 3) := by decide +kernel
theorem dX1_isStone_12 : decode cX1_isStone 12 = .ok (.iconst 1, 1) := by decide +kernel
theorem dX1_isStone_13 : decode cX1_isStone 13 = .ok (.goto 4, 3) := by decide +kernel
theorem dX1_isStone_16 : decode cX1_isStone 16 = .ok (.iconst 0, 1) := by decide +kernel
theorem dX1_isStone_17 : decode cX1_isStone 17 = .ok (.ireturn, 1) := by decide +kernel
theorem dX1_note_0 : decode cX1_note 0 = .ok (.aload_n 0, 1) := by decide +kernel
theorem dX1_note_1 : decode cX1_note 1 = .ok (.getfield 23, 3) := by decide +kernel
theorem dX1_note_4 : decode cX1_note 4 = .ok (.invokevirtual 26, 3) := by decide +kernel
theorem dX1_note_7 : decode cX1_note 7 = .ok (.iconst 1, 1) := by decide +kernel
theorem dX1_note_8 : decode cX1_note 8 = .ok (.iadd, 1) := by decide +kernel
theorem dX1_note_9 : decode cX1_note 9 = .ok (.istore_n 3, 1) := by decide +kernel
theorem dX1_note_10 : decode cX1_note 10 = .ok (.iconst 0, 1) := by decide +kernel
theorem dX1_note_11 : decode cX1_note 11 = .ok (.istore 4, 2) := by decide +kernel
theorem dX1_note_13 : decode cX1_note 13 = .ok (.iload 4, 2) := by decide +kernel
theorem dX1_note_15 : decode cX1_note 15 = .ok (.aload_n 0, 1) := by decide +kernel
theorem dX1_note_16 : decode cX1_note 16 = .ok (.getfield 23, 3) := by decide +kernel
theorem dX1_note_19 : decode cX1_note 19 = .ok (.invokevirtual 26, 3) := by decide +kernel
theorem dX1_note_22 : decode cX1_note 22 = .ok (.if_icmp .ge 29, 3) := by decide +kernel
theorem dX1_note_25 : decode cX1_note 25 = .ok (.aload_n 0, 1) := by decide +kernel
theorem dX1_note_26 : decode cX1_note 26 = .ok (.getfield 14, 3) := by decide +kernel
theorem dX1_note_29 : decode cX1_note 29 = .ok (.aload_n 0, 1) := by decide +kernel
theorem dX1_note_30 : decode cX1_note 30 = .ok (.getfield 23, 3) := by decide +kernel
theorem dX1_note_33 : decode cX1_note 33 = .ok (.iload 4, 2) := by decide +kernel
theorem dX1_note_35 : decode cX1_note 35 = .ok (.invokevirtual 30, 3) := by decide +kernel
theorem dX1_note_38 : decode cX1_note 38 = .ok (.invokevirtual 30, 3) := by decide +kernel
theorem dX1_note_41 : decode cX1_note 41 = .ok (.iload_n 1, 1) := by decide +kernel
theorem dX1_note_42 : decode cX1_note 42 = .ok (.if_icmp .ge 9, 3) := by decide +kernel
theorem dX1_note_45 : decode cX1_note 45 = .ok (.iinc 4 1, 3) := by decide +kernel
theorem dX1_note_48 : decode cX1_note 48 = .ok (.goto (-35), 3) := by decide +kernel
theorem dX1_note_51 : decode cX1_note 51 = .ok (.aload_n 0, 1) := by decide +kernel
theorem dX1_note_52 : decode cX1_note 52 = .ok (.getfield 14, 3) := by decide +kernel
theorem dX1_note_55 : decode cX1_note 55 = .ok (.iload_n 3, 1) := by decide +kernel
theorem dX1_note_56 : decode cX1_note 56 = .ok (.iload_n 1, 1) := by decide +kernel
theorem dX1_note_57 : decode cX1_note 57 = .ok (.invokevirtual 34, 3) := by decide +kernel
theorem dX1_note_60 : decode cX1_note 60 = .ok (.aload_n 0, 1) := by decide +kernel
theorem dX1_note_61 : decode cX1_note 61 = .ok (.getfield 20, 3) := by decide +kernel
theorem dX1_note_64 : decode cX1_note 64 = .ok (.iload_n 3, 1) := by decide +kernel
theorem dX1_note_65 : decode cX1_note 65 = .ok (.iload_n 2, 1) := by decide +kernel
theorem dX1_note_66 : decode cX1_note 66 = .ok (.invokevirtual 34, 3) := by decide +kernel
theorem dX1_note_69 : decode cX1_note 69 = .ok (.aload_n 0, 1) := by decide +kernel
theorem dX1_note_70 : decode cX1_note 70 = .ok (.getfield 23, 3) := by decide +kernel
theorem dX1_note_73 : decode cX1_note 73 = .ok (.iload 4, 2) := by decide +kernel
theorem dX1_note_75 : decode cX1_note 75 = .ok (.iconst 1, 1) := by decide +kernel
theorem dX1_note_76 : decode cX1_note 76 = .ok (.invokevirtual 38, 3) := by decide +kernel
theorem dX1_note_79 : decode cX1_note 79 = .ok (.aload_n 0, 1) := by decide +kernel
theorem dX1_note_80 : decode cX1_note 80 = .ok (.getfield 23, 3) := by decide +kernel
theorem dX1_note_83 : decode cX1_note 83 = .ok (.iload 4, 2) := by decide +kernel
theorem dX1_note_85 : decode cX1_note 85 = .ok (.iload_n 3, 1) := by decide +kernel
theorem dX1_note_86 : decode cX1_note 86 = .ok (.invokevirtual 34, 3) := by decide +kernel
theorem dX1_note_89 : decode cX1_note 89 = .ok (.iload_n 3, 1) := by decide +kernel
theorem dX1_note_90 : decode cX1_note 90 = .ok (.ireturn, 1) := by decide +kernel
theorem dX1_find_0 : decode cX1_find 0 = .ok (.iload_n 2, 1) := by decide +kernel
theorem dX1_find_1 : decode cX1_find 1 = .ok (.istore 6, 2) := by decide +kernel
theorem dX1_find_3 : decode cX1_find 3 = .ok (.iload 6, 2) := by decide +kernel
theorem dX1_find_5 : decode cX1_find 5 = .ok (.iload_n 3, 1) := by decide +kernel
theorem dX1_find_6 : decode cX1_find 6 = .ok (.if_icmp .ge 41, 3) := by decide +kernel
theorem dX1_find_9 : decode cX1_find 9 = .ok (.aload_n 1, 1) := by decide +kernel
theorem dX1_find_10 : decode cX1_find 10 = .ok (.iload 6, 2) := by decide +kernel
theorem dX1_find_12 : decode cX1_find 12 = .ok (.invokevirtual 30, 3) := by decide +kernel
theorem dX1_find_15 : decode cX1_find 15 = .ok (.istore 7, 2) := by decide +kernel
theorem dX1_find_17 : decode cX1_find 17 = .ok (.aload_n 0, 1) := by decide +kernel
theorem dX1_find_18 : decode cX1_find 18 = .ok (.getfield 14, 3) := by decide +kernel
theorem dX1_find_21 : decode cX1_find 21 = .ok (.iload 7, 2) := by decide +kernel
theorem dX1_find_23 : decode cX1_find 23 = .ok (.invokevirtual 30, 3) := by decide +kernel
theorem dX1_find_26 : decode cX1_find 26 = .ok (.iload 4, 2) := by decide +kernel
theorem dX1_find_28 : decode cX1_find 28 = .ok (.if_icmp .ne 13, 3) := by decide +kernel
theorem dX1_find_31 : decode cX1_find 31 = .ok (.iload 7, 2) := by decide +kernel
theorem dX1_find_33 : decode cX1_find 33 = .ok (.iload 5, 2) := by decide +kernel
theorem dX1_find_35 : decode cX1_find 35 = .ok (.if_icmp .gt 6, 3) := by decide +kernel
theorem dX1_find_38 : decode cX1_find 38 = .ok (.iload 7, 2) := by decide +kernel
theorem dX1_find_40 : decode cX1_find 40 = .ok (.ireturn, 1) := by decide +kernel
theorem dX1_find_41 : decode cX1_find 41 = .ok (.iinc 6 1, 3) := by decide +kernel
theorem dX1_find_44 : decode cX1_find 44 = .ok (.goto (-41), 3) := by decide +kernel
theorem dX1_find_47 : decode cX1_find 47 = .ok (.iconst 0, 1) := by decide +kernel
theorem dX1_find_48 : decode cX1_find 48 = .ok (.ireturn, 1) := by decide +kernel
theorem dX2_init_0 : decode cX2_init 0 = .ok (.aload_n 0, 1) := by decide +kernel
theorem dX2_init_1 : decode cX2_init 1 = .ok (.invokespecial 3, 3) := by decide +kernel
theorem dX2_init_4 : decode cX2_init 4 = .ok (.aload_n 0, 1) := by decide +kernel
theorem dX2_init_5 : decode cX2_init 5 = .ok (.new 9, 3) := by decide +kernel
theorem dX2_init_8 : decode cX2_init 8 = .ok (.dup, 1) := by decide +kernel
theorem dX2_init_9 : decode cX2_init 9 = .ok (.sipush 513, 3) := by decide +kernel
theorem dX2_init_12 : decode cX2_init 12 = .ok (.invokespecial 11, 3) := by decide +kernel
theorem dX2_init_15 : decode cX2_init 15 = .ok (.putfield 14, 3) := by decide +kernel
theorem dX2_init_18 : decode cX2_init 18 = .ok (.aload_n 0, 1) := by decide +kernel
theorem dX2_init_19 : decode cX2_init 19 = .ok (.new 9, 3) := by decide +kernel
theorem dX2_init_22 : decode cX2_init 22 = .ok (.dup, 1) := by decide +kernel
theorem dX2_init_23 : decode cX2_init 23 = .ok (.sipush 512, 3) := by decide +kernel
theorem dX2_init_26 : decode cX2_init 26 = .ok (.invokespecial 11, 3) := by decide +kernel
theorem dX2_init_29 : decode cX2_init 29 = .ok (.putfield 20, 3) := by decide +kernel
theorem dX2_init_32 : decode cX2_init 32 = .ok (.aload_n 0, 1) := by decide +kernel
theorem dX2_init_33 : decode cX2_init 33 = .ok (.aload_n 1, 1) := by decide +kernel
theorem dX2_init_34 : decode cX2_init 34 = .ok (.putfield 23, 3) := by decide +kernel
theorem dX2_init_37 : decode cX2_init 37 = .ok (.aload_n 0, 1) := by decide +kernel
theorem dX2_init_38 : decode cX2_init 38 = .ok (.aload_n 2, 1) := by decide +kernel
theorem dX2_init_39 : decode cX2_init 39 = .ok (.putfield 27, 3) := by decide +kernel
theorem dX2_init_42 : decode cX2_init 42 = .ok (.return_, 1) := by decide +kernel
theorem dX2_begin_0 : decode cX2_begin 0 = .ok (.aload_n 0, 1) := by decide +kernel
theorem dX2_begin_1 : decode cX2_begin 1 = .ok (.getfield 14, 3) := by decide +kernel
theorem dX2_begin_4 : decode cX2_begin 4 = .ok (.invokevirtual 31, 3) := by decide +kernel
theorem dX2_begin_7 : decode cX2_begin 7 = .ok (.aload_n 0, 1) := by decide +kernel
theorem dX2_begin_8 : decode cX2_begin 8 = .ok (.getfield 20, 3) := by decide +kernel
theorem dX2_begin_11 : decode cX2_begin 11 = .ok (.invokevirtual 34, 3) := by decide +kernel
theorem dX2_begin_14 : decode cX2_begin 14 = .ok (.return_, 1) := by decide +kernel
theorem dX2_gather_0 : decode cX2_gather 0 = .ok (.iload_n 2, 1) := by decide +kernel
theorem dX2_gather_1 : decode cX2_gather 1 = .ok (.istore 4, 2) := by decide +kernel
theorem dX2_gather_3 : decode cX2_gather 3 = .ok (.iload 4, 2) := by decide +kernel
theorem dX2_gather_5 : decode cX2_gather 5 = .ok (.iload_n 3, 1) := by decide +kernel
theorem dX2_gather_6 : decode cX2_gather 6 = .ok (.if_icmp .ge 23, 3) := by decide +kernel
theorem dX2_gather_9 : decode cX2_gather 9 = .ok (.aload_n 0, 1) := by decide +kernel
theorem dX2_gather_10 : decode cX2_gather 10 = .ok (.getfield 14, 3) := by decide +kernel
theorem dX2_gather_13 : decode cX2_gather 13 = .ok (.aload_n 1, 1) := by decide +kernel
theorem dX2_gather_14 : decode cX2_gather 14 = .ok (.iload 4, 2) := by decide +kernel
theorem dX2_gather_16 : decode cX2_gather 16 = .ok (.invokevirtual 37, 3) := by decide +kernel
theorem dX2_gather_19 : decode cX2_gather 19 = .ok (.iconst 1, 1) := by decide +kernel
theorem dX2_gather_20 : decode cX2_gather 20 = .ok (.invokevirtual 41, 3) := by decide +kernel
theorem dX2_gather_23 : decode cX2_gather 23 = .ok (.iinc 4 1, 3) := by decide +kernel
theorem dX2_gather_26 : decode cX2_gather 26 = .ok (.goto (-23), 3) := by decide +kernel
theorem dX2_gather_29 : decode cX2_gather 29 = .ok (.return_, 1) := by decide +kernel
theorem dX2_keepNeeded_0 : decode cX2_keepNeeded 0 = .ok (.iconst 0, 1) := by decide +kernel
theorem dX2_keepNeeded_1 : decode cX2_keepNeeded 1 = .ok (.istore_n 1, 1) := by decide +kernel
theorem dX2_keepNeeded_2 : decode cX2_keepNeeded 2 = .ok (.iconst 0, 1) := by decide +kernel
theorem dX2_keepNeeded_3 : decode cX2_keepNeeded 3 = .ok (.istore_n 2, 1) := by decide +kernel
theorem dX2_keepNeeded_4 : decode cX2_keepNeeded 4 = .ok (.iload_n 2, 1) := by decide +kernel
theorem dX2_keepNeeded_5 : decode cX2_keepNeeded 5 = .ok (.aload_n 0, 1) := by decide +kernel
theorem dX2_keepNeeded_6 : decode cX2_keepNeeded 6 = .ok (.getfield 23, 3) := by decide +kernel
theorem dX2_keepNeeded_9 : decode cX2_keepNeeded 9 = .ok (.getfield 45, 3) := by decide +kernel
theorem dX2_keepNeeded_12 : decode cX2_keepNeeded 12 = .ok (.invokevirtual 50, 3) := by decide +kernel
theorem dX2_keepNeeded_15 : decode cX2_keepNeeded 15 = .ok (.if_icmp .ge 90, 3) := by decide +kernel
theorem dX2_keepNeeded_18 : decode cX2_keepNeeded 18 = .ok (.aload_n 0, 1) := by decide +kernel
theorem dX2_keepNeeded_19 : decode cX2_keepNeeded 19 = .ok (.getfield 23, 3) := by decide +kernel
theorem dX2_keepNeeded_22 : decode cX2_keepNeeded 22 = .ok (.getfield 45, 3) := by decide +kernel
theorem dX2_keepNeeded_25 : decode cX2_keepNeeded 25 = .ok (.iload_n 2, 1) := by decide +kernel
theorem dX2_keepNeeded_26 : decode cX2_keepNeeded 26 = .ok (.invokevirtual 37, 3) := by decide +kernel
theorem dX2_keepNeeded_29 : decode cX2_keepNeeded 29 = .ok (.istore_n 3, 1) := by decide +kernel
theorem dX2_keepNeeded_30 : decode cX2_keepNeeded 30 = .ok (.aload_n 0, 1) := by decide +kernel
theorem dX2_keepNeeded_31 : decode cX2_keepNeeded 31 = .ok (.getfield 14, 3) := by decide +kernel
theorem dX2_keepNeeded_34 : decode cX2_keepNeeded 34 = .ok (.iload_n 3, 1) := by decide +kernel
theorem dX2_keepNeeded_35 : decode cX2_keepNeeded 35 = .ok (.invokevirtual 37, 3) := by decide +kernel
theorem dX2_keepNeeded_38 : decode cX2_keepNeeded 38 = .ok (.iconst 1, 1) := by decide +kernel
theorem dX2_keepNeeded_39 : decode cX2_keepNeeded 39 = .ok (.if_icmp .ne 60, 3) := by decide +kernel
theorem dX2_keepNeeded_42 : decode cX2_keepNeeded 42 = .ok (.iload_n 1, 1) := by decide +kernel
theorem dX2_keepNeeded_43 : decode cX2_keepNeeded 43 = .ok (.ifCond .eq 22, 3) := by decide +kernel
theorem dX2_keepNeeded_46 : decode cX2_keepNeeded 46 = .ok (.aload_n 0, 1) := by decide +kernel
theorem dX2_keepNeeded_47 : decode cX2_keepNeeded 47 = .ok (.getfield 23, 3) := by decide +kernel
theorem dX2_keepNeeded_50 : decode cX2_keepNeeded 50 = .ok (.iload_n 1, 1) := by decide +kernel
theorem dX2_keepNeeded_51 : decode cX2_keepNeeded 51 = .ok (.invokevirtual 54, 3) := by decide +kernel
theorem dX2_keepNeeded_54 : decode cX2_keepNeeded 54 = .ok (.aload_n 0, 1) := by decide +kernel
theorem dX2_keepNeeded_55 : decode cX2_keepNeeded 55 = .ok (.getfield 23, 3) := by decide +kernel
theorem dX2_keepNeeded_58 : decode cX2_keepNeeded 58 = .ok (.iload_n 3, 1) := by decide +kernel
theorem dX2_keepNeeded_59 : decode cX2_keepNeeded 59 = .ok (.invokevirtual 54, 3) := by decide +kernel
theorem dX2_keepNeeded_62 : decode cX2_keepNeeded 62 = .ok (.if_icmp .eq 7, 3) := by decide +kernel
theorem dX2_keepNeeded_65 : decode cX2_keepNeeded 65 = .ok (.iconst 1, 1) := by decide +kernel
theorem dX2_keepNeeded_66 : decode cX2_keepNeeded 66 = .ok (.goto 4, 3) := by decide +kernel
theorem dX2_keepNeeded_69 : decode cX2_keepNeeded 69 = .ok (.iconst 0, 1) := by decide +kernel
theorem dX2_keepNeeded_70 : decode cX2_keepNeeded 70 = .ok (.istore 4, 2) := by decide +kernel
theorem dX2_keepNeeded_72 : decode cX2_keepNeeded 72 = .ok (.iload 4, 2) := by decide +kernel
theorem dX2_keepNeeded_74 : decode cX2_keepNeeded 74 = .ok (.ifCond .ne 15, 3) := by decide +kernel
theorem dX2_keepNeeded_77 : decode cX2_keepNeeded 77 = .ok (.aload_n 0, 1) := by decide +kernel
theorem dX2_keepNeeded_78 : decode cX2_keepNeeded 78 = .ok (.getfield 27, 3) := by decide +kernel
theorem dX2_keepNeeded_81 : decode cX2_keepNeeded 81 = .ok (.iload_n 3, 1) := by decide +kernel
theorem dX2_keepNeeded_82 : decode cX2_keepNeeded 82 = .ok (.iload_n 1, 1) := by decide +kernel
theorem dX2_keepNeeded_83 : decode cX2_keepNeeded 83 = .ok (.invokevirtual 57, 3) := by decide +kernel
theorem dX2_keepNeeded_86 : decode cX2_keepNeeded 86 = .ok (.ifCond .eq 11, 3) := by decide +kernel
theorem dX2_keepNeeded_89 : decode cX2_keepNeeded 89 = .ok (.aload_n 0, 1) := by decide +kernel
theorem dX2_keepNeeded_90 : decode cX2_keepNeeded 90 = .ok (.getfield 20, 3) := by decide +kernel
theorem dX2_keepNeeded_93 : decode cX2_keepNeeded 93 = .ok (.iload_n 3, 1) := by decide +kernel
theorem dX2_keepNeeded_94 : decode cX2_keepNeeded 94 = .ok (.invokevirtual 63, 3) := by decide +kernel
theorem dX2_keepNeeded_97 : decode cX2_keepNeeded 97 = .ok (.iload_n 3, 1) := by decide +kernel
theorem dX2_keepNeeded_98 : decode cX2_keepNeeded 98 = .ok (.istore_n 1, 1) := by decide +kernel
theorem dX2_keepNeeded_99 : decode cX2_keepNeeded 99 = .ok (.iinc 2 1, 3) := by decide +kernel
theorem dX2_keepNeeded_102 : decode cX2_keepNeeded 102 = .ok (.goto (-98), 3) := by decide +kernel
theorem dX2_keepNeeded_105 : decode cX2_keepNeeded 105 = .ok (.return_, 1) := by decide +kernel
theorem dX2_keepThere_0 : decode cX2_keepThere 0 = .ok (.iconst (-1), 1) := by decide +kernel
theorem dX2_keepThere_1 : decode cX2_keepThere 1 = .ok (.istore_n 2, 1) := by decide +kernel
theorem dX2_keepThere_2 : decode cX2_keepThere 2 = .ok (.iconst 0, 1) := by decide +kernel
theorem dX2_keepThere_3 : decode cX2_keepThere 3 = .ok (.istore_n 3, 1) := by decide +kernel
theorem dX2_keepThere_4 : decode cX2_keepThere 4 = .ok (.iload_n 3, 1) := by decide +kernel
theorem dX2_keepThere_5 : decode cX2_keepThere 5 = .ok (.aload_n 0, 1) := by decide +kernel
theorem dX2_keepThere_6 : decode cX2_keepThere 6 = .ok (.getfield 23, 3) := by decide +kernel
theorem dX2_keepThere_9 : decode cX2_keepThere 9 = .ok (.getfield 45, 3) := by decide +kernel
theorem dX2_keepThere_12 : decode cX2_keepThere 12 = .ok (.invokevirtual 50, 3) := by decide +kernel
theorem dX2_keepThere_15 : decode cX2_keepThere 15 = .ok (.if_icmp .ge 82, 3) := by decide +kernel
theorem dX2_keepThere_18 : decode cX2_keepThere 18 = .ok (.aload_n 0, 1) := by decide +kernel
theorem dX2_keepThere_19 : decode cX2_keepThere 19 = .ok (.getfield 23, 3) := by decide +kernel
theorem dX2_keepThere_22 : decode cX2_keepThere 22 = .ok (.getfield 45, 3) := by decide +kernel
theorem dX2_keepThere_25 : decode cX2_keepThere 25 = .ok (.iload_n 3, 1) := by decide +kernel
theorem dX2_keepThere_26 : decode cX2_keepThere 26 = .ok (.invokevirtual 37, 3) := by decide +kernel
theorem dX2_keepThere_29 : decode cX2_keepThere 29 = .ok (.istore 4, 2) := by decide +kernel
theorem dX2_keepThere_31 : decode cX2_keepThere 31 = .ok (.aload_n 0, 1) := by decide +kernel
theorem dX2_keepThere_32 : decode cX2_keepThere 32 = .ok (.getfield 23, 3) := by decide +kernel
theorem dX2_keepThere_35 : decode cX2_keepThere 35 = .ok (.iload 4, 2) := by decide +kernel
theorem dX2_keepThere_37 : decode cX2_keepThere 37 = .ok (.invokevirtual 54, 3) := by decide +kernel
theorem dX2_keepThere_40 : decode cX2_keepThere 40 = .ok (.istore 5, 2) := by decide +kernel
theorem dX2_keepThere_42 : decode cX2_keepThere 42 = .ok (.aload_n 0, 1) := by decide +kernel
theorem dX2_keepThere_43 : decode cX2_keepThere 43 = .ok (.getfield 14, 3) := by decide +kernel
theorem dX2_keepThere_46 : decode cX2_keepThere 46 = .ok (.iload 4, 2) := by decide +kernel
theorem dX2_keepThere_48 : decode cX2_keepThere 48 = .ok (.invokevirtual 37, 3) := by decide +kernel
theorem dX2_keepThere_51 : decode cX2_keepThere 51 = .ok (.iconst 1, 1) := by decide +kernel
theorem dX2_keepThere_52 : decode cX2_keepThere 52 = .ok (.if_icmp .ne 39, 3) := by decide +kernel
theorem dX2_keepThere_55 : decode cX2_keepThere 55 = .ok (.iload 4, 2) := by decide +kernel
theorem dX2_keepThere_57 : decode cX2_keepThere 57 = .ok (.iload_n 1, 1) := by decide +kernel
theorem dX2_keepThere_58 : decode cX2_keepThere 58 = .ok (.if_icmp .gt 33, 3) := by decide +kernel
theorem dX2_keepThere_61 : decode cX2_keepThere 61 = .ok (.iload 5, 2) := by decide +kernel
theorem dX2_keepThere_63 : decode cX2_keepThere 63 = .ok (.iload_n 2, 1) := by decide +kernel
theorem dX2_keepThere_64 : decode cX2_keepThere 64 = .ok (.if_icmp .eq 27, 3) := by decide +kernel
theorem dX2_keepThere_67 : decode cX2_keepThere 67 = .ok (.iload 5, 2) := by decide +kernel
theorem dX2_keepThere_69 : decode cX2_keepThere 69 = .ok (.istore_n 2, 1) := by decide +kernel
theorem dX2_keepThere_70 : decode cX2_keepThere 70 = .ok (.aload_n 0, 1) := by decide +kernel
theorem dX2_keepThere_71 : decode cX2_keepThere 71 = .ok (.getfield 23, 3) := by decide +kernel
theorem dX2_keepThere_74 : decode cX2_keepThere 74 = .ok (.iload 4, 2) := by decide +kernel
theorem dX2_keepThere_76 : decode cX2_keepThere 76 = .ok (.invokevirtual 66, 3) := by decide +kernel
theorem dX2_keepThere_79 : decode cX2_keepThere 79 = .ok (.ifCond .ne 12, 3) := by decide +kernel
theorem dX2_keepThere_82 : decode cX2_keepThere 82 = .ok (.aload_n 0, 1) := by decide +kernel
theorem dX2_keepThere_83 : decode cX2_keepThere 83 = .ok (.getfield 20, 3) := by decide +kernel
theorem dX2_keepThere_86 : decode cX2_keepThere 86 = .ok (.iload 4, 2) := by decide +kernel
theorem dX2_keepThere_88 : decode cX2_keepThere 88 = .ok (.invokevirtual 63, 3) := by decide +kernel
theorem dX2_keepThere_91 : decode cX2_keepThere 91 = .ok (.iinc 3 1, 3) := by decide +kernel
theorem dX2_keepThere_94 : decode cX2_keepThere 94 = .ok (.goto (-90), 3) := by decide +kernel
theorem dX2_keepThere_97 : decode cX2_keepThere 97 = .ok (.return_, 1) := by decide +kernel
theorem dX2_dropStones_0 : decode cX2_dropStones 0 = .ok (.iconst (-1), 1) := by decide +kernel
theorem dX2_dropStones_1 : decode cX2_dropStones 1 = .ok (.istore_n 3, 1) := by decide +kernel
theorem dX2_dropStones_2 : decode cX2_dropStones 2 = .ok (.iconst 0, 1) := by decide +kernel
theorem dX2_dropStones_3 : decode cX2_dropStones 3 = .ok (.istore 4, 2) := by decide +kernel
theorem dX2_dropStones_5 : decode cX2_dropStones 5 = .ok (.aload_n 0, 1) := by decide +kernel
theorem dX2_dropStones_6 : decode cX2_dropStones 6 = .ok (.getfield 20, 3) := by decide +kernel
theorem dX2_dropStones_9 : decode cX2_dropStones 9 = .ok (.invokevirtual 50, 3) := by decide +kernel
theorem dX2_dropStones_12 : decode cX2_dropStones 12 = .ok (.iconst 1, 1) := by decide +kernel
theorem dX2_dropStones_13 : decode cX2_dropStones 13 = .ok (.isub, 1) := by decide +kernel
theorem dX2_dropStones_14 : decode cX2_dropStones 14 = .ok (.istore 5, 2) := by decide +kernel
theorem dX2_dropStones_16 : decode cX2_dropStones 16 = .ok (.iload 5, 2) := by decide +kernel
theorem dX2_dropStones_18 : decode cX2_dropStones 18 = .ok (.ifCond .lt 113, 3) := by decide +kernel
theorem dX2_dropStones_21 : decode cX2_dropStones 21 = .ok (.aload_n 0, 1) := by decide +kernel
theorem dX2_dropStones_22 : decode cX2_dropStones 22 = .ok (.getfield 20, 3) := by decide +kernel
theorem dX2_dropStones_25 : decode cX2_dropStones 25 = .ok (.iload 5, 2) := by decide +kernel
theorem dX2_dropStones_27 : decode cX2_dropStones 27 = .ok (.invokevirtual 37, 3) := by decide +kernel
theorem dX2_dropStones_30 : decode cX2_dropStones 30 = .ok (.istore 6, 2) := by decide +kernel
theorem dX2_dropStones_32 : decode cX2_dropStones 32 = .ok (.aload_n 0, 1) := by decide +kernel
theorem dX2_dropStones_33 : decode cX2_dropStones 33 = .ok (.getfield 23, 3) := by decide +kernel
theorem dX2_dropStones_36 : decode cX2_dropStones 36 = .ok (.iload 6, 2) := by decide +kernel
theorem dX2_dropStones_38 : decode cX2_dropStones 38 = .ok (.invokevirtual 54, 3) := by decide +kernel
theorem dX2_dropStones_41 : decode cX2_dropStones 41 = .ok (.istore 7, 2) := by decide +kernel
theorem dX2_dropStones_43 : decode cX2_dropStones 43 = .ok (.iload 4, 2) := by decide +kernel
theorem dX2_dropStones_45 : decode cX2_dropStones 45 = .ok (.ifCond .ne 9, 3) := by decide +kernel
theorem dX2_dropStones_48 : decode cX2_dropStones 48 = .ok (.iload 7, 2) := by decide +kernel
theorem dX2_dropStones_50 : decode cX2_dropStones 50 = .ok (.iload_n 3, 1) := by decide +kernel
theorem dX2_dropStones_51 : decode cX2_dropStones 51 = .ok (.if_icmp .eq 7, 3) := by decide +kernel
theorem dX2_dropStones_54 : decode cX2_dropStones 54 = .ok (.iconst 1, 1) := by decide +kernel
theorem dX2_dropStones_55 : decode cX2_dropStones 55 = .ok (.goto 4, 3) := by decide +kernel
theorem dX2_dropStones_58 : decode cX2_dropStones 58 = .ok (.iconst 0, 1) := by decide +kernel
theorem dX2_dropStones_59 : decode cX2_dropStones 59 = .ok (.istore 4, 2) := by decide +kernel
theorem dX2_dropStones_61 : decode cX2_dropStones 61 = .ok (.iload 7, 2) := by decide +kernel
theorem dX2_dropStones_63 : decode cX2_dropStones 63 = .ok (.istore_n 3, 1) := by decide +kernel
theorem dX2_dropStones_64 : decode cX2_dropStones 64 = .ok (.iload 4, 2) := by decide +kernel
theorem dX2_dropStones_66 : decode cX2_dropStones 66 = .ok (.ifCond .eq 56, 3) := by decide +kernel
theorem dX2_dropStones_69 : decode cX2_dropStones 69 = .ok (.aload_n 0, 1) := by decide +kernel
theorem dX2_dropStones_70 : decode cX2_dropStones 70 = .ok (.getfield 23, 3) := by decide +kernel
theorem dX2_dropStones_73 : decode cX2_dropStones 73 = .ok (.iload 6, 2) := by decide +kernel
theorem dX2_dropStones_75 : decode cX2_dropStones 75 = .ok (.invokevirtual 66, 3) := by decide +kernel
theorem dX2_dropStones_78 : decode cX2_dropStones 78 = .ok (.ifCond .eq 44, 3) := by decide +kernel
theorem dX2_dropStones_81 : decode cX2_dropStones 81 = .ok (.aload_n 0, 1) := by decide +kernel
theorem dX2_dropStones_82 : decode cX2_dropStones 82 = .ok (.getfield 23, 3) := by decide +kernel
theorem dX2_dropStones_85 : decode cX2_dropStones 85 = .ok (.aload_n 1, 1) := by decide +kernel
theorem dX2_dropStones_86 : decode cX2_dropStones 86 = .ok (.iload_n 2, 1) := by decide +kernel
theorem dX2_dropStones_87 : decode cX2_dropStones 87 = .ok (.aload_n 1, 1) := by decide +kernel
theorem dX2_dropStones_88 : decode cX2_dropStones 88 = .ok (.invokevirtual 50, 3) := by decide +kernel
theorem dX2_dropStones_91 : decode cX2_dropStones 91 = .ok (.iload 7, 2) := by decide +kernel
theorem dX2_dropStones_93 : decode cX2_dropStones 93 = .ok (.aload_n 0, 1) := by decide +kernel
theorem dX2_dropStones_94 : decode cX2_dropStones 94 = .ok (.getfield 23, 3) := by decide +kernel
theorem dX2_dropStones_97 : decode cX2_dropStones 97 = .ok (.invokevirtual 70, 3) := by decide +kernel
theorem dX2_dropStones_100 : decode cX2_dropStones 100 = .ok (.invokevirtual 73, 3) := by decide +kernel
theorem dX2_dropStones_103 : decode cX2_dropStones 103 = .ok (.ifCond .ne 19, 3) := by decide +kernel
theorem dX2_dropStones_106 : decode cX2_dropStones 106 = .ok (.aload_n 0, 1) := by decide +kernel
theorem dX2_dropStones_107 : decode cX2_dropStones 107 = .ok (.getfield 20, 3) := by decide +kernel
theorem dX2_dropStones_110 : decode cX2_dropStones 110 = .ok (.iload 5, 2) := by decide +kernel
theorem dX2_dropStones_112 : decode cX2_dropStones 112 = .ok (.iload 5, 2) := by decide +kernel
theorem dX2_dropStones_114 : decode cX2_dropStones 114 = .ok (.iconst 1, 1) := by decide +kernel
theorem dX2_dropStones_115 : decode cX2_dropStones 115 = .ok (.iadd, 1) := by decide +kernel
theorem dX2_dropStones_116 : decode cX2_dropStones 116 = .ok (.invokevirtual 77, 3) := by decide +kernel
theorem dX2_dropStones_119 : decode cX2_dropStones 119 = .ok (.goto 6, 3) := by decide +kernel
theorem dX2_dropStones_122 : decode cX2_dropStones 122 = .ok (.iconst 0, 1) := by decide +kernel
theorem dX2_dropStones_123 : decode cX2_dropStones 123 = .ok (.istore 4, 2) := by decide +kernel
theorem dX2_dropStones_125 : decode cX2_dropStones 125 = .ok (.iinc 5 (-1), 3) := by decide +kernel
theorem dX2_dropStones_128 : decode cX2_dropStones 128 = .ok (.goto (-112), 3) := by decide +kernel
theorem dX2_dropStones_131 : decode cX2_dropStones 131 = .ok (.return_, 1) := by decide +kernel
theorem dX2_pieceEnd_0 : decode cX2_pieceEnd 0 = .ok (.iload_n 1, 1) := by decide +kernel
theorem dX2_pieceEnd_1 : decode cX2_pieceEnd 1 = .ok (.istore_n 3, 1) := by decide +kernel
theorem dX2_pieceEnd_2 : decode cX2_pieceEnd 2 = .ok (.iload_n 1, 1) := by decide +kernel
theorem dX2_pieceEnd_3 : decode cX2_pieceEnd 3 = .ok (.iconst 1, 1) := by decide +kernel
theorem dX2_pieceEnd_4 : decode cX2_pieceEnd 4 = .ok (.iadd, 1) := by decide +kernel
theorem dX2_pieceEnd_5 : decode cX2_pieceEnd 5 = .ok (.istore 4, 2) := by decide +kernel
theorem dX2_pieceEnd_7 : decode cX2_pieceEnd 7 = .ok (.iload 4, 2) := by decide +kernel
theorem dX2_pieceEnd_9 : decode cX2_pieceEnd 9 = .ok (.aload_n 0, 1) := by decide +kernel
theorem dX2_pieceEnd_10 : decode cX2_pieceEnd 10 = .ok (.getfield 20, 3) := by decide +kernel
theorem dX2_pieceEnd_13 : decode cX2_pieceEnd 13 = .ok (.invokevirtual 50, 3) := by decide +kernel
theorem dX2_pieceEnd_16 : decode cX2_pieceEnd 16 = .ok (.if_icmp .gt 93, 3) := by decide +kernel
theorem dX2_pieceEnd_19 : decode cX2_pieceEnd 19 = .ok (.iload 4, 2) := by decide +kernel
theorem dX2_pieceEnd_21 : decode cX2_pieceEnd 21 = .ok (.aload_n 0, 1) := by decide +kernel
theorem dX2_pieceEnd_22 : decode cX2_pieceEnd 22 = .ok (.getfield 20, 3) := by decide +kernel
theorem dX2_pieceEnd_25 : decode cX2_pieceEnd 25 = .ok (.invokevirtual 50, 3) := by decide +kernel
theorem dX2_pieceEnd_28 : decode cX2_pieceEnd 28 = .ok (.if_icmp .eq 40, 3) := by decide +kernel
theorem dX2_pieceEnd_31 : decode cX2_pieceEnd 31 = .ok (.aload_n 0, 1) := by decide +kernel
theorem dX2_pieceEnd_32 : decode cX2_pieceEnd 32 = .ok (.getfield 23, 3) := by decide +kernel
theorem dX2_pieceEnd_35 : decode cX2_pieceEnd 35 = .ok (.aload_n 0, 1) := by decide +kernel
theorem dX2_pieceEnd_36 : decode cX2_pieceEnd 36 = .ok (.getfield 20, 3) := by decide +kernel
theorem dX2_pieceEnd_39 : decode cX2_pieceEnd 39 = .ok (.iload 4, 2) := by decide +kernel
theorem dX2_pieceEnd_41 : decode cX2_pieceEnd 41 = .ok (.invokevirtual 37, 3) := by decide +kernel
theorem dX2_pieceEnd_44 : decode cX2_pieceEnd 44 = .ok (.invokevirtual 54, 3) := by decide +kernel
theorem dX2_pieceEnd_47 : decode cX2_pieceEnd 47 = .ok (.aload_n 0, 1) := by decide +kernel
theorem dX2_pieceEnd_48 : decode cX2_pieceEnd 48 = .ok (.getfield 23, 3) := by decide +kernel
theorem dX2_pieceEnd_51 : decode cX2_pieceEnd 51 = .ok (.aload_n 0, 1) := by decide +kernel
theorem dX2_pieceEnd_52 : decode cX2_pieceEnd 52 = .ok (.getfield 20, 3) := by decide +kernel
theorem dX2_pieceEnd_55 : decode cX2_pieceEnd 55 = .ok (.iload 4, 2) := by decide +kernel
theorem dX2_pieceEnd_57 : decode cX2_pieceEnd 57 = .ok (.iconst 1, 1) := by decide +kernel
theorem dX2_pieceEnd_58 : decode cX2_pieceEnd 58 = .ok (.isub, 1) := by decide +kernel
theorem dX2_pieceEnd_59 : decode cX2_pieceEnd 59 = .ok (.invokevirtual 37, 3) := by decide +kernel
theorem dX2_pieceEnd_62 : decode cX2_pieceEnd 62 = .ok (.invokevirtual 54, 3) := by decide +kernel
theorem dX2_pieceEnd_65 : decode cX2_pieceEnd 65 = .ok (.if_icmp .eq 7, 3) := by decide +kernel
theorem dX2_pieceEnd_68 : decode cX2_pieceEnd 68 = .ok (.iconst 1, 1) := by decide +kernel
theorem dX2_pieceEnd_69 : decode cX2_pieceEnd 69 = .ok (.goto 4, 3) := by decide +kernel
theorem dX2_pieceEnd_72 : decode cX2_pieceEnd 72 = .ok (.iconst 0, 1) := by decide +kernel
theorem dX2_pieceEnd_73 : decode cX2_pieceEnd 73 = .ok (.istore 5, 2) := by decide +kernel
theorem dX2_pieceEnd_75 : decode cX2_pieceEnd 75 = .ok (.iload 5, 2) := by decide +kernel
theorem dX2_pieceEnd_77 : decode cX2_pieceEnd 77 = .ok (.ifCond .eq 18, 3) := by decide +kernel
theorem dX2_pieceEnd_80 : decode cX2_pieceEnd 80 = .ok (.iload_n 3, 1) := by decide +kernel
theorem dX2_pieceEnd_81 : decode cX2_pieceEnd 81 = .ok (.iload_n 1, 1) := by decide +kernel
theorem dX2_pieceEnd_82 : decode cX2_pieceEnd 82 = .ok (.if_icmp .le 13, 3) := by decide +kernel
theorem dX2_pieceEnd_85 : decode cX2_pieceEnd 85 = .ok (.iload 4, 2) := by decide +kernel
theorem dX2_pieceEnd_87 : decode cX2_pieceEnd 87 = .ok (.iload_n 1, 1) := by decide +kernel
theorem dX2_pieceEnd_88 : decode cX2_pieceEnd 88 = .ok (.isub, 1) := by decide +kernel
theorem dX2_pieceEnd_89 : decode cX2_pieceEnd 89 = .ok (.iload_n 2, 1) := by decide +kernel
theorem dX2_pieceEnd_90 : decode cX2_pieceEnd 90 = .ok (.if_icmp .le 5, 3) := by decide +kernel
theorem dX2_pieceEnd_93 : decode cX2_pieceEnd 93 = .ok (.iload_n 3, 1) := by decide +kernel
theorem dX2_pieceEnd_94 : decode cX2_pieceEnd 94 = .ok (.ireturn, 1) := by decide +kernel
theorem dX2_pieceEnd_95 : decode cX2_pieceEnd 95 = .ok (.iload 5, 2) := by decide +kernel
theorem dX2_pieceEnd_97 : decode cX2_pieceEnd 97 = .ok (.ifCond .eq 6, 3) := by decide +kernel
theorem dX2_pieceEnd_100 : decode cX2_pieceEnd 100 = .ok (.iload 4, 2) := by decide +kernel
theorem dX2_pieceEnd_102 : decode cX2_pieceEnd 102 = .ok (.istore_n 3, 1) := by decide +kernel
theorem dX2_pieceEnd_103 : decode cX2_pieceEnd 103 = .ok (.iinc 4 1, 3) := by decide +kernel
theorem dX2_pieceEnd_106 : decode cX2_pieceEnd 106 = .ok (.goto (-99), 3) := by decide +kernel
theorem dX2_pieceEnd_109 : decode cX2_pieceEnd 109 = .ok (.iload_n 3, 1) := by decide +kernel
theorem dX2_pieceEnd_110 : decode cX2_pieceEnd 110 = .ok (.ireturn, 1) := by decide +kernel
theorem dX3_init_0 : decode cX3_init 0 = .ok (.aload_n 0, 1) := by decide +kernel
theorem dX3_init_1 : decode cX3_init 1 = .ok (.invokespecial 1, 3) := by decide +kernel
theorem dX3_init_4 : decode cX3_init 4 = .ok (.aload_n 0, 1) := by decide +kernel
theorem dX3_init_5 : decode cX3_init 5 = .ok (.iload_n 1, 1) := by decide +kernel
theorem dX3_init_6 : decode cX3_init 6 = .ok (.ifCond .le 7, 3) := by decide +kernel
theorem dX3_init_9 : decode cX3_init 9 = .ok (.iload_n 1, 1) := by decide +kernel
theorem dX3_init_10 : decode cX3_init 10 = .ok (.goto 4, 3) := by decide +kernel
theorem dX3_init_13 : decode cX3_init 13 = .ok (.iconst 0, 1) := by decide +kernel
theorem dX3_init_14 : decode cX3_init 14 = .ok (.newarray .int, 2) := by decide +kernel
theorem dX3_init_16 : decode cX3_init 16 = .ok (.putfield 7, 3) := by decide +kernel
theorem dX3_init_19 : decode cX3_init 19 = .ok (.return_, 1) := by decide +kernel
theorem dX3_length_0 : decode cX3_length 0 = .ok (.aload_n 0, 1) := by decide +kernel
theorem dX3_length_1 : decode cX3_length 1 = .ok (.getfield 13, 3) := by decide +kernel
theorem dX3_length_4 : decode cX3_length 4 = .ok (.ireturn, 1) := by decide +kernel
theorem dX3_at_0 : decode cX3_at 0 = .ok (.iload_n 1, 1) := by decide +kernel
theorem dX3_at_1 : decode cX3_at 1 = .ok (.ifCond .lt 21, 3) := by decide +kernel
theorem dX3_at_4 : decode cX3_at 4 = .ok (.iload_n 1, 1) := by decide +kernel
theorem dX3_at_5 : decode cX3_at 5 = .ok (.aload_n 0, 1) := by decide +kernel
theorem dX3_at_6 : decode cX3_at 6 = .ok (.getfield 7, 3) := by decide +kernel
theorem dX3_at_9 : decode cX3_at 9 = .ok (.arraylength, 1) := by decide +kernel
theorem dX3_at_10 : decode cX3_at 10 = .ok (.if_icmp .ge 12, 3) := by decide +kernel
theorem dX3_at_13 : decode cX3_at 13 = .ok (.aload_n 0, 1) := by decide +kernel
theorem dX3_at_14 : decode cX3_at 14 = .ok (.getfield 7, 3) := by decide +kernel
theorem dX3_at_17 : decode cX3_at 17 = .ok (.iload_n 1, 1) := by decide +kernel
theorem dX3_at_18 : decode cX3_at 18 = .ok (.iaload, 1) := by decide +kernel
theorem dX3_at_19 : decode cX3_at 19 = .ok (.goto 4, 3) := by decide +kernel
theorem dX3_at_22 : decode cX3_at 22 = .ok (.iconst 0, 1) := by decide +kernel
theorem dX3_at_23 : decode cX3_at 23 = .ok (.ireturn, 1) := by decide +kernel
theorem dX3_write_0 : decode cX3_write 0 = .ok (.iload_n 1, 1) := by decide +kernel
theorem dX3_write_1 : decode cX3_write 1 = .ok (.ifCond .lt 19, 3) := by decide +kernel
theorem dX3_write_4 : decode cX3_write 4 = .ok (.iload_n 1, 1) := by decide +kernel
theorem dX3_write_5 : decode cX3_write 5 = .ok (.aload_n 0, 1) := by decide +kernel
theorem dX3_write_6 : decode cX3_write 6 = .ok (.getfield 7, 3) := by decide +kernel
theorem dX3_write_9 : decode cX3_write 9 = .ok (.arraylength, 1) := by decide +kernel
theorem dX3_write_10 : decode cX3_write 10 = .ok (.if_icmp .ge 10, 3) := by decide +kernel
theorem dX3_write_13 : decode cX3_write 13 = .ok (.aload_n 0, 1) := by decide +kernel
theorem dX3_write_14 : decode cX3_write 14 = .ok (.getfield 7, 3) := by decide +kernel
theorem dX3_write_17 : decode cX3_write 17 = .ok (.iload_n 1, 1) := by decide +kernel
theorem dX3_write_18 : decode cX3_write 18 = .ok (.iload_n 2, 1) := by decide +kernel
theorem dX3_write_19 : decode cX3_write 19 = .ok (.iastore, 1) := by decide +kernel
theorem dX3_write_20 : decode cX3_write 20 = .ok (.return_, 1) := by decide +kernel
theorem dX3_raise_0 : decode cX3_raise 0 = .ok (.iload_n 1, 1) := by decide +kernel
theorem dX3_raise_1 : decode cX3_raise 1 = .ok (.ifCond .lt 22, 3) := by decide +kernel
theorem dX3_raise_4 : decode cX3_raise 4 = .ok (.iload_n 1, 1) := by decide +kernel
theorem dX3_raise_5 : decode cX3_raise 5 = .ok (.aload_n 0, 1) := by decide +kernel
theorem dX3_raise_6 : decode cX3_raise 6 = .ok (.getfield 7, 3) := by decide +kernel
theorem dX3_raise_9 : decode cX3_raise 9 = .ok (.arraylength, 1) := by decide +kernel
theorem dX3_raise_10 : decode cX3_raise 10 = .ok (.if_icmp .ge 13, 3) := by decide +kernel
theorem dX3_raise_13 : decode cX3_raise 13 = .ok (.aload_n 0, 1) := by decide +kernel
theorem dX3_raise_14 : decode cX3_raise 14 = .ok (.getfield 7, 3) := by decide +kernel
theorem dX3_raise_17 : decode cX3_raise 17 = .ok (.iload_n 1, 1) := by decide +kernel
theorem dX3_raise_18 : decode cX3_raise 18 = .ok (.dup2, 1) := by decide +kernel
theorem dX3_raise_19 : decode cX3_raise 19 = .ok (.iaload, 1) := by decide +kernel
theorem dX3_raise_20 : decode cX3_raise 20 = .ok (.iload_n 2, 1) := by decide +kernel
theorem dX3_raise_21 : decode cX3_raise 21 = .ok (.iadd, 1) := by decide +kernel
theorem dX3_raise_22 : decode cX3_raise 22 = .ok (.iastore, 1) := by decide +kernel
theorem dX3_raise_23 : decode cX3_raise 23 = .ok (.return_, 1) := by decide +kernel
theorem dX3_append_0 : decode cX3_append 0 = .ok (.aload_n 0, 1) := by decide +kernel
theorem dX3_append_1 : decode cX3_append 1 = .ok (.getfield 13, 3) := by decide +kernel
theorem dX3_append_4 : decode cX3_append 4 = .ok (.ifCond .lt 35, 3) := by decide +kernel
theorem dX3_append_7 : decode cX3_append 7 = .ok (.aload_n 0, 1) := by decide +kernel
theorem dX3_append_8 : decode cX3_append 8 = .ok (.getfield 13, 3) := by decide +kernel
theorem dX3_append_11 : decode cX3_append 11 = .ok (.aload_n 0, 1) := by decide +kernel
theorem dX3_append_12 : decode cX3_append 12 = .ok (.getfield 7, 3) := by decide +kernel
theorem dX3_append_15 : decode cX3_append 15 = .ok (.arraylength, 1) := by decide +kernel
theorem dX3_append_16 : decode cX3_append 16 = .ok (.if_icmp .ge 23, 3) := by decide +kernel
theorem dX3_append_19 : decode cX3_append 19 = .ok (.aload_n 0, 1) := by decide +kernel
theorem dX3_append_20 : decode cX3_append 20 = .ok (.getfield 7, 3) := by decide +kernel
theorem dX3_append_23 : decode cX3_append 23 = .ok (.aload_n 0, 1) := by decide +kernel
theorem dX3_append_24 : decode cX3_append 24 = .ok (.getfield 13, 3) := by decide +kernel
theorem dX3_append_27 : decode cX3_append 27 = .ok (.iload_n 1, 1) := by decide +kernel
theorem dX3_append_28 : decode cX3_append 28 = .ok (.iastore, 1) := by decide +kernel
theorem dX3_append_29 : decode cX3_append 29 = .ok (.aload_n 0, 1) := by decide +kernel
theorem dX3_append_30 : decode cX3_append 30 = .ok (.dup, 1) := by decide +kernel
theorem dX3_append_31 : decode cX3_append 31 = .ok (.getfield 13, 3) := by decide +kernel
theorem dX3_append_34 : decode cX3_append 34 = .ok (.iconst 1, 1) := by decide +kernel
theorem dX3_append_35 : decode cX3_append 35 = .ok (.iadd, 1) := by decide +kernel
theorem dX3_append_36 : decode cX3_append 36 = .ok (.putfield 13, 3) := by decide +kernel
theorem dX3_append_39 : decode cX3_append 39 = .ok (.return_, 1) := by decide +kernel
theorem dX3_open_0 : decode cX3_open 0 = .ok (.iload_n 1, 1) := by decide +kernel
theorem dX3_open_1 : decode cX3_open 1 = .ok (.ifCond .lt 60, 3) := by decide +kernel
theorem dX3_open_4 : decode cX3_open 4 = .ok (.iload_n 1, 1) := by decide +kernel
theorem dX3_open_5 : decode cX3_open 5 = .ok (.aload_n 0, 1) := by decide +kernel
theorem dX3_open_6 : decode cX3_open 6 = .ok (.getfield 13, 3) := by decide +kernel
theorem dX3_open_9 : decode cX3_open 9 = .ok (.if_icmp .gt 52, 3) := by decide +kernel
theorem dX3_open_12 : decode cX3_open 12 = .ok (.iload_n 2, 1) := by decide +kernel
theorem dX3_open_13 : decode cX3_open 13 = .ok (.ifCond .le 48, 3) := by decide +kernel
theorem dX3_open_16 : decode cX3_open 16 = .ok (.iload_n 2, 1) := by decide +kernel
theorem dX3_open_17 : decode cX3_open 17 = .ok (.aload_n 0, 1) := by decide +kernel
theorem dX3_open_18 : decode cX3_open 18 = .ok (.getfield 7, 3) := by decide +kernel
theorem dX3_open_21 : decode cX3_open 21 = .ok (.arraylength, 1) := by decide +kernel
theorem dX3_open_22 : decode cX3_open 22 = .ok (.aload_n 0, 1) := by decide +kernel
theorem dX3_open_23 : decode cX3_open 23 = .ok (.getfield 13, 3) := by decide +kernel
theorem dX3_open_26 : decode cX3_open 26 = .ok (.isub, 1) := by decide +kernel
theorem dX3_open_27 : decode cX3_open 27 = .ok (.if_icmp .gt 34, 3) := by decide +kernel
theorem dX3_open_30 : decode cX3_open 30 = .ok (.aload_n 0, 1) := by decide +kernel
theorem dX3_open_31 : decode cX3_open 31 = .ok (.getfield 7, 3) := by decide +kernel
theorem dX3_open_34 : decode cX3_open 34 = .ok (.iload_n 1, 1) := by decide +kernel
theorem dX3_open_35 : decode cX3_open 35 = .ok (.aload_n 0, 1) := by decide +kernel
theorem dX3_open_36 : decode cX3_open 36 = .ok (.getfield 7, 3) := by decide +kernel
theorem dX3_open_39 : decode cX3_open 39 = .ok (.iload_n 1, 1) := by decide +kernel
theorem dX3_open_40 : decode cX3_open 40 = .ok (.iload_n 2, 1) := by decide +kernel
theorem dX3_open_41 : decode cX3_open 41 = .ok (.iadd, 1) := by decide +kernel
theorem dX3_open_42 : decode cX3_open 42 = .ok (.aload_n 0, 1) := by decide +kernel
theorem dX3_open_43 : decode cX3_open 43 = .ok (.getfield 13, 3) := by decide +kernel
theorem dX3_open_46 : decode cX3_open 46 = .ok (.iload_n 1, 1) := by decide +kernel
theorem dX3_open_47 : decode cX3_open 47 = .ok (.isub, 1) := by decide +kernel
theorem dX3_open_48 : decode cX3_open 48 = .ok (.invokestatic 17, 3) := by decide +kernel
theorem dX3_open_51 : decode cX3_open 51 = .ok (.aload_n 0, 1) := by decide +kernel
theorem dX3_open_52 : decode cX3_open 52 = .ok (.dup, 1) := by decide +kernel
theorem dX3_open_53 : decode cX3_open 53 = .ok (.getfield 13, 3) := by decide +kernel
theorem dX3_open_56 : decode cX3_open 56 = .ok (.iload_n 2, 1) := by decide +kernel
theorem dX3_open_57 : decode cX3_open 57 = .ok (.iadd, 1) := by decide +kernel
theorem dX3_open_58 : decode cX3_open 58 = .ok (.putfield 13, 3) := by decide +kernel
theorem dX3_open_61 : decode cX3_open 61 = .ok (.return_, 1) := by decide +kernel
theorem dX3_cut_0 : decode cX3_cut 0 = .ok (.iload_n 1, 1) := by decide +kernel
theorem dX3_cut_1 : decode cX3_cut 1 = .ok (.ifCond .lt 47, 3) := by decide +kernel
theorem dX3_cut_4 : decode cX3_cut 4 = .ok (.iload_n 1, 1) := by decide +kernel
theorem dX3_cut_5 : decode cX3_cut 5 = .ok (.iload_n 2, 1) := by decide +kernel
theorem dX3_cut_6 : decode cX3_cut 6 = .ok (.if_icmp .ge 42, 3) := by decide +kernel
theorem dX3_cut_9 : decode cX3_cut 9 = .ok (.iload_n 2, 1) := by decide +kernel
theorem dX3_cut_10 : decode cX3_cut 10 = .ok (.aload_n 0, 1) := by decide +kernel
theorem dX3_cut_11 : decode cX3_cut 11 = .ok (.getfield 13, 3) := by decide +kernel
theorem dX3_cut_14 : decode cX3_cut 14 = .ok (.if_icmp .gt 34, 3) := by decide +kernel
theorem dX3_cut_17 : decode cX3_cut 17 = .ok (.aload_n 0, 1) := by decide +kernel
theorem dX3_cut_18 : decode cX3_cut 18 = .ok (.getfield 7, 3) := by decide +kernel
theorem dX3_cut_21 : decode cX3_cut 21 = .ok (.iload_n 2, 1) := by decide +kernel
theorem dX3_cut_22 : decode cX3_cut 22 = .ok (.aload_n 0, 1) := by decide +kernel
theorem dX3_cut_23 : decode cX3_cut 23 = .ok (.getfield 7, 3) := by decide +kernel
theorem dX3_cut_26 : decode cX3_cut 26 = .ok (.iload_n 1, 1) := by decide +kernel
theorem dX3_cut_27 : decode cX3_cut 27 = .ok (.aload_n 0, 1) := by decide +kernel
theorem dX3_cut_28 : decode cX3_cut 28 = .ok (.getfield 13, 3) := by decide +kernel
theorem dX3_cut_31 : decode cX3_cut 31 = .ok (.iload_n 2, 1) := by decide +kernel
theorem dX3_cut_32 : decode cX3_cut 32 = .ok (.isub, 1) := by decide +kernel
theorem dX3_cut_33 : decode cX3_cut 33 = .ok (.invokestatic 17, 3) := by decide +kernel
theorem dX3_cut_36 : decode cX3_cut 36 = .ok (.aload_n 0, 1) := by decide +kernel
theorem dX3_cut_37 : decode cX3_cut 37 = .ok (.dup, 1) := by decide +kernel
theorem dX3_cut_38 : decode cX3_cut 38 = .ok (.getfield 13, 3) := by decide +kernel
theorem dX3_cut_41 : decode cX3_cut 41 = .ok (.iload_n 2, 1) := by decide +kernel
theorem dX3_cut_42 : decode cX3_cut 42 = .ok (.iload_n 1, 1) := by decide +kernel
theorem dX3_cut_43 : decode cX3_cut 43 = .ok (.isub, 1) := by decide +kernel
theorem dX3_cut_44 : decode cX3_cut 44 = .ok (.isub, 1) := by decide +kernel
theorem dX3_cut_45 : decode cX3_cut 45 = .ok (.putfield 13, 3) := by decide +kernel
theorem dX3_cut_48 : decode cX3_cut 48 = .ok (.return_, 1) := by decide +kernel
theorem dX3_copy_0 : decode cX3_copy 0 = .ok (.aload_n 0, 1) := by decide +kernel
theorem dX3_copy_1 : decode cX3_copy 1 = .ok (.iconst 0, 1) := by decide +kernel
theorem dX3_copy_2 : decode cX3_copy 2 = .ok (.putfield 13, 3) := by decide +kernel
theorem dX3_copy_5 : decode cX3_copy 5 = .ok (.iconst 0, 1) := by decide +kernel
theorem dX3_copy_6 : decode cX3_copy 6 = .ok (.istore_n 2, 1) := by decide +kernel
theorem dX3_copy_7 : decode cX3_copy 7 = .ok (.iload_n 2, 1) := by decide +kernel
theorem dX3_copy_8 : decode cX3_copy 8 = .ok (.aload_n 1, 1) := by decide +kernel
theorem dX3_copy_9 : decode cX3_copy 9 = .ok (.invokevirtual 23, 3) := by decide +kernel
theorem dX3_copy_12 : decode cX3_copy 12 = .ok (.if_icmp .ge 18, 3) := by decide +kernel
theorem dX3_copy_15 : decode cX3_copy 15 = .ok (.aload_n 0, 1) := by decide +kernel
theorem dX3_copy_16 : decode cX3_copy 16 = .ok (.aload_n 1, 1) := by decide +kernel
theorem dX3_copy_17 : decode cX3_copy 17 = .ok (.iload_n 2, 1) := by decide +kernel
theorem dX3_copy_18 : decode cX3_copy 18 = .ok (.invokevirtual 27, 3) := by decide +kernel
theorem dX3_copy_21 : decode cX3_copy 21 = .ok (.invokevirtual 31, 3) := by decide +kernel
theorem dX3_copy_24 : decode cX3_copy 24 = .ok (.iinc 2 1, 3) := by decide +kernel
theorem dX3_copy_27 : decode cX3_copy 27 = .ok (.goto (-20), 3) := by decide +kernel
theorem dX3_copy_30 : decode cX3_copy 30 = .ok (.return_, 1) := by decide +kernel
theorem dX3_empty_0 : decode cX3_empty 0 = .ok (.aload_n 0, 1) := by decide +kernel
theorem dX3_empty_1 : decode cX3_empty 1 = .ok (.iconst 0, 1) := by decide +kernel
theorem dX3_empty_2 : decode cX3_empty 2 = .ok (.putfield 13, 3) := by decide +kernel
theorem dX3_empty_5 : decode cX3_empty 5 = .ok (.return_, 1) := by decide +kernel
theorem dX3_wipe_0 : decode cX3_wipe 0 = .ok (.iconst 0, 1) := by decide +kernel
theorem dX3_wipe_1 : decode cX3_wipe 1 = .ok (.istore_n 1, 1) := by decide +kernel
theorem dX3_wipe_2 : decode cX3_wipe 2 = .ok (.iload_n 1, 1) := by decide +kernel
theorem dX3_wipe_3 : decode cX3_wipe 3 = .ok (.aload_n 0, 1) := by decide +kernel
theorem dX3_wipe_4 : decode cX3_wipe 4 = .ok (.getfield 7, 3) := by decide +kernel
theorem dX3_wipe_7 : decode cX3_wipe 7 = .ok (.arraylength, 1) := by decide +kernel
theorem dX3_wipe_8 : decode cX3_wipe 8 = .ok (.if_icmp .ge 16, 3) := by decide +kernel
theorem dX3_wipe_11 : decode cX3_wipe 11 = .ok (.aload_n 0, 1) := by decide +kernel
theorem dX3_wipe_12 : decode cX3_wipe 12 = .ok (.getfield 7, 3) := by decide +kernel
theorem dX3_wipe_15 : decode cX3_wipe 15 = .ok (.iload_n 1, 1) := by decide +kernel
theorem dX3_wipe_16 : decode cX3_wipe 16 = .ok (.iconst 0, 1) := by decide +kernel
theorem dX3_wipe_17 : decode cX3_wipe 17 = .ok (.iastore, 1) := by decide +kernel
theorem dX3_wipe_18 : decode cX3_wipe 18 = .ok (.iinc 1 1, 3) := by decide +kernel
theorem dX3_wipe_21 : decode cX3_wipe 21 = .ok (.goto (-19), 3) := by decide +kernel
theorem dX3_wipe_24 : decode cX3_wipe 24 = .ok (.return_, 1) := by decide +kernel
theorem dX4_init_0 : decode cX4_init 0 = .ok (.aload_n 0, 1) := by decide +kernel
theorem dX4_init_1 : decode cX4_init 1 = .ok (.invokespecial 3, 3) := by decide +kernel
theorem dX4_init_4 : decode cX4_init 4 = .ok (.aload_n 0, 1) := by decide +kernel
theorem dX4_init_5 : decode cX4_init 5 = .ok (.new 9, 3) := by decide +kernel
theorem dX4_init_8 : decode cX4_init 8 = .ok (.dup, 1) := by decide +kernel
theorem dX4_init_9 : decode cX4_init 9 = .ok (.sipush 512, 3) := by decide +kernel
theorem dX4_init_12 : decode cX4_init 12 = .ok (.invokespecial 11, 3) := by decide +kernel
theorem dX4_init_15 : decode cX4_init 15 = .ok (.putfield 14, 3) := by decide +kernel
theorem dX4_init_18 : decode cX4_init 18 = .ok (.aload_n 0, 1) := by decide +kernel
theorem dX4_init_19 : decode cX4_init 19 = .ok (.new 9, 3) := by decide +kernel
theorem dX4_init_22 : decode cX4_init 22 = .ok (.dup, 1) := by decide +kernel
theorem dX4_init_23 : decode cX4_init 23 = .ok (.sipush 512, 3) := by decide +kernel
theorem dX4_init_26 : decode cX4_init 26 = .ok (.invokespecial 11, 3) := by decide +kernel
theorem dX4_init_29 : decode cX4_init 29 = .ok (.putfield 20, 3) := by decide +kernel
theorem dX4_init_32 : decode cX4_init 32 = .ok (.aload_n 0, 1) := by decide +kernel
theorem dX4_init_33 : decode cX4_init 33 = .ok (.new 9, 3) := by decide +kernel
theorem dX4_init_36 : decode cX4_init 36 = .ok (.dup, 1) := by decide +kernel
theorem dX4_init_37 : decode cX4_init 37 = .ok (.sipush 512, 3) := by decide +kernel
theorem dX4_init_40 : decode cX4_init 40 = .ok (.invokespecial 11, 3) := by decide +kernel
theorem dX4_init_43 : decode cX4_init 43 = .ok (.putfield 23, 3) := by decide +kernel
theorem dX4_init_46 : decode cX4_init 46 = .ok (.aload_n 0, 1) := by decide +kernel
theorem dX4_init_47 : decode cX4_init 47 = .ok (.new 9, 3) := by decide +kernel
theorem dX4_init_50 : decode cX4_init 50 = .ok (.dup, 1) := by decide +kernel
theorem dX4_init_51 : decode cX4_init 51 = .ok (.sipush 512, 3) := by decide +kernel
theorem dX4_init_54 : decode cX4_init 54 = .ok (.invokespecial 11, 3) := by decide +kernel
theorem dX4_init_57 : decode cX4_init 57 = .ok (.putfield 26, 3) := by decide +kernel
theorem dX4_init_60 : decode cX4_init 60 = .ok (.aload_n 0, 1) := by decide +kernel
theorem dX4_init_61 : decode cX4_init 61 = .ok (.new 9, 3) := by decide +kernel
theorem dX4_init_64 : decode cX4_init 64 = .ok (.dup, 1) := by decide +kernel
theorem dX4_init_65 : decode cX4_init 65 = .ok (.sipush 512, 3) := by decide +kernel
theorem dX4_init_68 : decode cX4_init 68 = .ok (.invokespecial 11, 3) := by decide +kernel
theorem dX4_init_71 : decode cX4_init 71 = .ok (.putfield 29, 3) := by decide +kernel
theorem dX4_init_74 : decode cX4_init 74 = .ok (.aload_n 0, 1) := by decide +kernel
theorem dX4_init_75 : decode cX4_init 75 = .ok (.new 9, 3) := by decide +kernel
theorem dX4_init_78 : decode cX4_init 78 = .ok (.dup, 1) := by decide +kernel
theorem dX4_init_79 : decode cX4_init 79 = .ok (.sipush 512, 3) := by decide +kernel
theorem dX4_init_82 : decode cX4_init 82 = .ok (.invokespecial 11, 3) := by decide +kernel
theorem dX4_init_85 : decode cX4_init 85 = .ok (.putfield 32, 3) := by decide +kernel
theorem dX4_init_88 : decode cX4_init 88 = .ok (.aload_n 0, 1) := by decide +kernel
theorem dX4_init_89 : decode cX4_init 89 = .ok (.new 9, 3) := by decide +kernel
theorem dX4_init_92 : decode cX4_init 92 = .ok (.dup, 1) := by decide +kernel
theorem dX4_init_93 : decode cX4_init 93 = .ok (.iconst 4, 1) := by decide +kernel
theorem dX4_init_94 : decode cX4_init 94 = .ok (.invokespecial 11, 3) := by decide +kernel
theorem dX4_init_97 : decode cX4_init 97 = .ok (.putfield 35, 3) := by decide +kernel
theorem dX4_init_100 : decode cX4_init 100 = .ok (.aload_n 0, 1) := by decide +kernel
theorem dX4_init_101 : decode cX4_init 101 = .ok (.aload_n 1, 1) := by decide +kernel
theorem dX4_init_102 : decode cX4_init 102 = .ok (.putfield 38, 3) := by decide +kernel
theorem dX4_init_105 : decode cX4_init 105 = .ok (.return_, 1) := by decide +kernel
theorem dX4_total_0 : decode cX4_total 0 = .ok (.aload_n 0, 1) := by decide +kernel
theorem dX4_total_1 : decode cX4_total 1 = .ok (.getfield 20, 3) := by decide +kernel
theorem dX4_total_4 : decode cX4_total 4 = .ok (.invokevirtual 42, 3) := by decide +kernel
theorem dX4_total_7 : decode cX4_total 7 = .ok (.ireturn, 1) := by decide +kernel
theorem dX4_count_0 : decode cX4_count 0 = .ok (.aload_n 0, 1) := by decide +kernel
theorem dX4_count_1 : decode cX4_count 1 = .ok (.getfield 35, 3) := by decide +kernel
theorem dX4_count_4 : decode cX4_count 4 = .ok (.iload_n 1, 1) := by decide +kernel
theorem dX4_count_5 : decode cX4_count 5 = .ok (.invokevirtual 46, 3) := by decide +kernel
theorem dX4_count_8 : decode cX4_count 8 = .ok (.ireturn, 1) := by decide +kernel
theorem dX4_first_0 : decode cX4_first 0 = .ok (.iconst 0, 1) := by decide +kernel
theorem dX4_first_1 : decode cX4_first 1 = .ok (.istore_n 2, 1) := by decide +kernel
theorem dX4_first_2 : decode cX4_first 2 = .ok (.iconst 0, 1) := by decide +kernel
theorem dX4_first_3 : decode cX4_first 3 = .ok (.istore_n 3, 1) := by decide +kernel
theorem dX4_first_4 : decode cX4_first 4 = .ok (.iload_n 3, 1) := by decide +kernel
theorem dX4_first_5 : decode cX4_first 5 = .ok (.iload_n 1, 1) := by decide +kernel
theorem dX4_first_6 : decode cX4_first 6 = .ok (.if_icmp .ge 20, 3) := by decide +kernel
theorem dX4_first_9 : decode cX4_first 9 = .ok (.iload_n 2, 1) := by decide +kernel
theorem dX4_first_10 : decode cX4_first 10 = .ok (.aload_n 0, 1) := by decide +kernel
theorem dX4_first_11 : decode cX4_first 11 = .ok (.getfield 35, 3) := by decide +kernel
theorem dX4_first_14 : decode cX4_first 14 = .ok (.iload_n 3, 1) := by decide +kernel
theorem dX4_first_15 : decode cX4_first 15 = .ok (.invokevirtual 46, 3) := by decide +kernel
theorem dX4_first_18 : decode cX4_first 18 = .ok (.iadd, 1) := by decide +kernel
theorem dX4_first_19 : decode cX4_first 19 = .ok (.istore_n 2, 1) := by decide +kernel
theorem dX4_first_20 : decode cX4_first 20 = .ok (.iinc 3 1, 3) := by decide +kernel
theorem dX4_first_23 : decode cX4_first 23 = .ok (.goto (-19), 3) := by decide +kernel
theorem dX4_first_26 : decode cX4_first 26 = .ok (.iload_n 2, 1) := by decide +kernel
theorem dX4_first_27 : decode cX4_first 27 = .ok (.ireturn, 1) := by decide +kernel
theorem dX4_begin_0 : decode cX4_begin 0 = .ok (.iload_n 1, 1) := by decide +kernel
theorem dX4_begin_1 : decode cX4_begin 1 = .ok (.ifCond .le 16, 3) := by decide +kernel
theorem dX4_begin_4 : decode cX4_begin 4 = .ok (.aload_n 0, 1) := by decide +kernel
theorem dX4_begin_5 : decode cX4_begin 5 = .ok (.getfield 20, 3) := by decide +kernel
theorem dX4_begin_8 : decode cX4_begin 8 = .ok (.iload_n 1, 1) := by decide +kernel
theorem dX4_begin_9 : decode cX4_begin 9 = .ok (.iconst 1, 1) := by decide +kernel
theorem dX4_begin_10 : decode cX4_begin 10 = .ok (.isub, 1) := by decide +kernel
theorem dX4_begin_11 : decode cX4_begin 11 = .ok (.invokevirtual 46, 3) := by decide +kernel
theorem dX4_begin_14 : decode cX4_begin 14 = .ok (.goto 4, 3) := by decide +kernel
theorem dX4_begin_17 : decode cX4_begin 17 = .ok (.iconst 0, 1) := by decide +kernel
theorem dX4_begin_18 : decode cX4_begin 18 = .ok (.ireturn, 1) := by decide +kernel
theorem dX4_length_0 : decode cX4_length 0 = .ok (.aload_n 0, 1) := by decide +kernel
theorem dX4_length_1 : decode cX4_length 1 = .ok (.getfield 20, 3) := by decide +kernel
theorem dX4_length_4 : decode cX4_length 4 = .ok (.iload_n 1, 1) := by decide +kernel
theorem dX4_length_5 : decode cX4_length 5 = .ok (.invokevirtual 46, 3) := by decide +kernel
theorem dX4_length_8 : decode cX4_length 8 = .ok (.aload_n 0, 1) := by decide +kernel
theorem dX4_length_9 : decode cX4_length 9 = .ok (.iload_n 1, 1) := by decide +kernel
theorem dX4_length_10 : decode cX4_length 10 = .ok (.invokevirtual 50, 3) := by decide +kernel
theorem dX4_length_13 : decode cX4_length 13 = .ok (.isub, 1) := by decide +kernel
theorem dX4_length_14 : decode cX4_length 14 = .ok (.ireturn, 1) := by decide +kernel
theorem dX4_entriesOn_0 : decode cX4_entriesOn 0 = .ok (.aload_n 0, 1) := by decide +kernel
theorem dX4_entriesOn_1 : decode cX4_entriesOn 1 = .ok (.aload_n 0, 1) := by decide +kernel
theorem dX4_entriesOn_2 : decode cX4_entriesOn 2 = .ok (.iload_n 1, 1) := by decide +kernel
theorem dX4_entriesOn_3 : decode cX4_entriesOn 3 = .ok (.iconst 1, 1) := by decide +kernel
theorem dX4_entriesOn_4 : decode cX4_entriesOn 4 = .ok (.iadd, 1) := by decide +kernel
theorem dX4_entriesOn_5 : decode cX4_entriesOn 5 = .ok (.invokevirtual 53, 3) := by decide +kernel
theorem dX4_entriesOn_8 : decode cX4_entriesOn 8 = .ok (.invokevirtual 50, 3) := by decide +kernel
theorem dX4_entriesOn_11 : decode cX4_entriesOn 11 = .ok (.aload_n 0, 1) := by decide +kernel
theorem dX4_entriesOn_12 : decode cX4_entriesOn 12 = .ok (.aload_n 0, 1) := by decide +kernel
theorem dX4_entriesOn_13 : decode cX4_entriesOn 13 = .ok (.iload_n 1, 1) := by decide +kernel
theorem dX4_entriesOn_14 : decode cX4_entriesOn 14 = .ok (.invokevirtual 53, 3) := by decide +kernel
theorem dX4_entriesOn_17 : decode cX4_entriesOn 17 = .ok (.invokevirtual 50, 3) := by decide +kernel
theorem dX4_entriesOn_20 : decode cX4_entriesOn 20 = .ok (.isub, 1) := by decide +kernel
theorem dX4_entriesOn_21 : decode cX4_entriesOn 21 = .ok (.ireturn, 1) := by decide +kernel
theorem dX4_age_0 : decode cX4_age 0 = .ok (.aload_n 0, 1) := by decide +kernel
theorem dX4_age_1 : decode cX4_age 1 = .ok (.getfield 14, 3) := by decide +kernel
theorem dX4_age_4 : decode cX4_age 4 = .ok (.aload_n 0, 1) := by decide +kernel
theorem dX4_age_5 : decode cX4_age 5 = .ok (.iload_n 1, 1) := by decide +kernel
theorem dX4_age_6 : decode cX4_age 6 = .ok (.invokevirtual 50, 3) := by decide +kernel
theorem dX4_age_9 : decode cX4_age 9 = .ok (.iload_n 2, 1) := by decide +kernel
theorem dX4_age_10 : decode cX4_age 10 = .ok (.iadd, 1) := by decide +kernel
theorem dX4_age_11 : decode cX4_age 11 = .ok (.invokevirtual 46, 3) := by decide +kernel
theorem dX4_age_14 : decode cX4_age 14 = .ok (.ireturn, 1) := by decide +kernel
theorem dX4_least_0 : decode cX4_least 0 = .ok (.aload_n 0, 1) := by decide +kernel
theorem dX4_least_1 : decode cX4_least 1 = .ok (.getfield 38, 3) := by decide +kernel
theorem dX4_least_4 : decode cX4_least 4 = .ok (.aload_n 0, 1) := by decide +kernel
theorem dX4_least_5 : decode cX4_least 5 = .ok (.getfield 14, 3) := by decide +kernel
theorem dX4_least_8 : decode cX4_least 8 = .ok (.aload_n 0, 1) := by decide +kernel
theorem dX4_least_9 : decode cX4_least 9 = .ok (.iload_n 1, 1) := by decide +kernel
theorem dX4_least_10 : decode cX4_least 10 = .ok (.invokevirtual 50, 3) := by decide +kernel
theorem dX4_least_13 : decode cX4_least 13 = .ok (.invokevirtual 46, 3) := by decide +kernel
theorem dX4_least_16 : decode cX4_least 16 = .ok (.invokevirtual 56, 3) := by decide +kernel
theorem dX4_least_19 : decode cX4_least 19 = .ok (.ireturn, 1) := by decide +kernel
theorem dX4_greatest_0 : decode cX4_greatest 0 = .ok (.aload_n 0, 1) := by decide +kernel
theorem dX4_greatest_1 : decode cX4_greatest 1 = .ok (.getfield 38, 3) := by decide +kernel
theorem dX4_greatest_4 : decode cX4_greatest 4 = .ok (.aload_n 0, 1) := by decide +kernel
theorem dX4_greatest_5 : decode cX4_greatest 5 = .ok (.getfield 14, 3) := by decide +kernel
theorem dX4_greatest_8 : decode cX4_greatest 8 = .ok (.aload_n 0, 1) := by decide +kernel
theorem dX4_greatest_9 : decode cX4_greatest 9 = .ok (.getfield 20, 3) := by decide +kernel
theorem dX4_greatest_12 : decode cX4_greatest 12 = .ok (.iload_n 1, 1) := by decide +kernel
theorem dX4_greatest_13 : decode cX4_greatest 13 = .ok (.invokevirtual 46, 3) := by decide +kernel
theorem dX4_greatest_16 : decode cX4_greatest 16 = .ok (.iconst 1, 1) := by decide +kernel
theorem dX4_greatest_17 : decode cX4_greatest 17 = .ok (.isub, 1) := by decide +kernel
theorem dX4_greatest_18 : decode cX4_greatest 18 = .ok (.invokevirtual 46, 3) := by decide +kernel
theorem dX4_greatest_21 : decode cX4_greatest 21 = .ok (.invokevirtual 56, 3) := by decide +kernel
theorem dX4_greatest_24 : decode cX4_greatest 24 = .ok (.ireturn, 1) := by decide +kernel
theorem dX4_spans_0 : decode cX4_spans 0 = .ok (.aload_n 0, 1) := by decide +kernel
theorem dX4_spans_1 : decode cX4_spans 1 = .ok (.iload_n 1, 1) := by decide +kernel
theorem dX4_spans_2 : decode cX4_spans 2 = .ok (.invokevirtual 61, 3) := by decide +kernel
theorem dX4_spans_5 : decode cX4_spans 5 = .ok (.iload_n 2, 1) := by decide +kernel
theorem dX4_spans_6 : decode cX4_spans 6 = .ok (.if_icmp .gt 16, 3) := by decide +kernel
theorem dX4_spans_9 : decode cX4_spans 9 = .ok (.iload_n 2, 1) := by decide +kernel
theorem dX4_spans_10 : decode cX4_spans 10 = .ok (.aload_n 0, 1) := by decide +kernel
theorem dX4_spans_11 : decode cX4_spans 11 = .ok (.iload_n 1, 1) := by decide +kernel
theorem dX4_spans_12 : decode cX4_spans 12 = .ok (.invokevirtual 64, 3) := by decide +kernel
theorem dX4_spans_15 : decode cX4_spans 15 = .ok (.if_icmp .gt 7, 3) := by decide +kernel
theorem dX4_spans_18 : decode cX4_spans 18 = .ok (.iconst 1, 1) := by decide +kernel
theorem dX4_spans_19 : decode cX4_spans 19 = .ok (.goto 4, 3) := by decide +kernel
theorem dX4_spans_22 : decode cX4_spans 22 = .ok (.iconst 0, 1) := by decide +kernel
theorem dX4_spans_23 : decode cX4_spans 23 = .ok (.ireturn, 1) := by decide +kernel
theorem dX4_find_0 : decode cX4_find 0 = .ok (.aload_n 0, 1) := by decide +kernel
theorem dX4_find_1 : decode cX4_find 1 = .ok (.getfield 38, 3) := by decide +kernel
theorem dX4_find_4 : decode cX4_find 4 = .ok (.aload_n 0, 1) := by decide +kernel
theorem dX4_find_5 : decode cX4_find 5 = .ok (.getfield 14, 3) := by decide +kernel
theorem dX4_find_8 : decode cX4_find 8 = .ok (.aload_n 0, 1) := by decide +kernel
theorem dX4_find_9 : decode cX4_find 9 = .ok (.iload_n 1, 1) := by decide +kernel
theorem dX4_find_10 : decode cX4_find 10 = .ok (.invokevirtual 50, 3) := by decide +kernel
theorem dX4_find_13 : decode cX4_find 13 = .ok (.aload_n 0, 1) := by decide +kernel
theorem dX4_find_14 : decode cX4_find 14 = .ok (.getfield 20, 3) := by decide +kernel
theorem dX4_find_17 : decode cX4_find 17 = .ok (.iload_n 1, 1) := by decide +kernel
theorem dX4_find_18 : decode cX4_find 18 = .ok (.invokevirtual 46, 3) := by decide +kernel
theorem dX4_find_21 : decode cX4_find 21 = .ok (.iload_n 2, 1) := by decide +kernel
theorem dX4_find_22 : decode cX4_find 22 = .ok (.iload_n 3, 1) := by decide +kernel
theorem dX4_find_23 : decode cX4_find 23 = .ok (.invokevirtual 67, 3) := by decide +kernel
theorem dX4_find_26 : decode cX4_find 26 = .ok (.ireturn, 1) := by decide +kernel
theorem dX4_leastOf_0 : decode cX4_leastOf 0 = .ok (.sipush 9999, 3) := by decide +kernel
theorem dX4_leastOf_3 : decode cX4_leastOf 3 = .ok (.istore_n 3, 1) := by decide +kernel
theorem dX4_leastOf_4 : decode cX4_leastOf 4 = .ok (.iload_n 1, 1) := by decide +kernel
theorem dX4_leastOf_5 : decode cX4_leastOf 5 = .ok (.istore 4, 2) := by decide +kernel
theorem dX4_leastOf_7 : decode cX4_leastOf 7 = .ok (.iload 4, 2) := by decide +kernel
theorem dX4_leastOf_9 : decode cX4_leastOf 9 = .ok (.iload_n 2, 1) := by decide +kernel
theorem dX4_leastOf_10 : decode cX4_leastOf 10 = .ok (.if_icmp .ge 20, 3) := by decide +kernel
theorem dX4_leastOf_13 : decode cX4_leastOf 13 = .ok (.iload_n 3, 1) := by decide +kernel
theorem dX4_leastOf_14 : decode cX4_leastOf 14 = .ok (.aload_n 0, 1) := by decide +kernel
theorem dX4_leastOf_15 : decode cX4_leastOf 15 = .ok (.iload 4, 2) := by decide +kernel
theorem dX4_leastOf_17 : decode cX4_leastOf 17 = .ok (.invokevirtual 61, 3) := by decide +kernel
theorem dX4_leastOf_20 : decode cX4_leastOf 20 = .ok (.invokestatic 71, 3) := by decide +kernel
theorem dX4_leastOf_23 : decode cX4_leastOf 23 = .ok (.istore_n 3, 1) := by decide +kernel
theorem dX4_leastOf_24 : decode cX4_leastOf 24 = .ok (.iinc 4 1, 3) := by decide +kernel
theorem dX4_leastOf_27 : decode cX4_leastOf 27 = .ok (.goto (-20), 3) := by decide +kernel
theorem dX4_leastOf_30 : decode cX4_leastOf 30 = .ok (.iload_n 3, 1) := by decide +kernel
theorem dX4_leastOf_31 : decode cX4_leastOf 31 = .ok (.ireturn, 1) := by decide +kernel
theorem dX4_greatestOf_0 : decode cX4_greatestOf 0 = .ok (.iconst 0, 1) := by decide +kernel
theorem dX4_greatestOf_1 : decode cX4_greatestOf 1 = .ok (.istore_n 3, 1) := by decide +kernel
theorem dX4_greatestOf_2 : decode cX4_greatestOf 2 = .ok (.iload_n 1, 1) := by decide +kernel
theorem dX4_greatestOf_3 : decode cX4_greatestOf 3 = .ok (.istore 4, 2) := by decide +kernel
theorem dX4_greatestOf_5 : decode cX4_greatestOf 5 = .ok (.iload 4, 2) := by decide +kernel
theorem dX4_greatestOf_7 : decode cX4_greatestOf 7 = .ok (.iload_n 2, 1) := by decide +kernel
theorem dX4_greatestOf_8 : decode cX4_greatestOf 8 = .ok (.if_icmp .ge 20, 3) := by decide +kernel
theorem dX4_greatestOf_11 : decode cX4_greatestOf 11 = .ok (.iload_n 3, 1) := by decide +kernel
theorem dX4_greatestOf_12 : decode cX4_greatestOf 12 = .ok (.aload_n 0, 1) := by decide +kernel
theorem dX4_greatestOf_13 : decode cX4_greatestOf 13 = .ok (.iload 4, 2) := by decide +kernel
theorem dX4_greatestOf_15 : decode cX4_greatestOf 15 = .ok (.invokevirtual 64, 3) := by decide +kernel
theorem dX4_greatestOf_18 : decode cX4_greatestOf 18 = .ok (.invokestatic 77, 3) := by decide +kernel
theorem dX4_greatestOf_21 : decode cX4_greatestOf 21 = .ok (.istore_n 3, 1) := by decide +kernel
theorem dX4_greatestOf_22 : decode cX4_greatestOf 22 = .ok (.iinc 4 1, 3) := by decide +kernel
theorem dX4_greatestOf_25 : decode cX4_greatestOf 25 = .ok (.goto (-20), 3) := by decide +kernel
theorem dX4_greatestOf_28 : decode cX4_greatestOf 28 = .ok (.iload_n 3, 1) := by decide +kernel
theorem dX4_greatestOf_29 : decode cX4_greatestOf 29 = .ok (.ireturn, 1) := by decide +kernel
theorem dX4_firstBeyond_0 : decode cX4_firstBeyond 0 = .ok (.aload_n 0, 1) := by decide +kernel
theorem dX4_firstBeyond_1 : decode cX4_firstBeyond 1 = .ok (.iload_n 1, 1) := by decide +kernel
theorem dX4_firstBeyond_2 : decode cX4_firstBeyond 2 = .ok (.invokevirtual 53, 3) := by decide +kernel
theorem dX4_firstBeyond_5 : decode cX4_firstBeyond 5 = .ok (.istore_n 3, 1) := by decide +kernel
theorem dX4_firstBeyond_6 : decode cX4_firstBeyond 6 = .ok (.iconst 0, 1) := by decide +kernel
theorem dX4_firstBeyond_7 : decode cX4_firstBeyond 7 = .ok (.istore 4, 2) := by decide +kernel
theorem dX4_firstBeyond_9 : decode cX4_firstBeyond 9 = .ok (.iload 4, 2) := by decide +kernel
theorem dX4_firstBeyond_11 : decode cX4_firstBeyond 11 = .ok (.aload_n 0, 1) := by decide +kernel
theorem dX4_firstBeyond_12 : decode cX4_firstBeyond 12 = .ok (.getfield 35, 3) := by decide +kernel
theorem dX4_firstBeyond_15 : decode cX4_firstBeyond 15 = .ok (.iload_n 1, 1) := by decide +kernel
theorem dX4_firstBeyond_16 : decode cX4_firstBeyond 16 = .ok (.invokevirtual 46, 3) := by decide +kernel
theorem dX4_firstBeyond_19 : decode cX4_firstBeyond 19 = .ok (.if_icmp .ge 24, 3) := by decide +kernel
theorem dX4_firstBeyond_22 : decode cX4_firstBeyond 22 = .ok (.aload_n 0, 1) := by decide +kernel
theorem dX4_firstBeyond_23 : decode cX4_firstBeyond 23 = .ok (.iload_n 3, 1) := by decide +kernel
theorem dX4_firstBeyond_24 : decode cX4_firstBeyond 24 = .ok (.iload 4, 2) := by decide +kernel
theorem dX4_firstBeyond_26 : decode cX4_firstBeyond 26 = .ok (.iadd, 1) := by decide +kernel
theorem dX4_firstBeyond_27 : decode cX4_firstBeyond 27 = .ok (.invokevirtual 61, 3) := by decide +kernel
theorem dX4_firstBeyond_30 : decode cX4_firstBeyond 30 = .ok (.iload_n 2, 1) := by decide +kernel
theorem dX4_firstBeyond_31 : decode cX4_firstBeyond 31 = .ok (.if_icmp .le 6, 3) := by decide +kernel
theorem dX4_firstBeyond_34 : decode cX4_firstBeyond 34 = .ok (.iload 4, 2) := by decide +kernel
theorem dX4_firstBeyond_36 : decode cX4_firstBeyond 36 = .ok (.ireturn, 1) := by decide +kernel
theorem dX4_firstBeyond_37 : decode cX4_firstBeyond 37 = .ok (.iinc 4 1, 3) := by decide +kernel
theorem dX4_firstBeyond_40 : decode cX4_firstBeyond 40 = .ok (.goto (-31), 3) := by decide +kernel
theorem dX4_firstBeyond_43 : decode cX4_firstBeyond 43 = .ok (.aload_n 0, 1) := by decide +kernel
theorem dX4_firstBeyond_44 : decode cX4_firstBeyond 44 = .ok (.getfield 35, 3) := by decide +kernel
theorem dX4_firstBeyond_47 : decode cX4_firstBeyond 47 = .ok (.iload_n 1, 1) := by decide +kernel
theorem dX4_firstBeyond_48 : decode cX4_firstBeyond 48 = .ok (.invokevirtual 46, 3) := by decide +kernel
theorem dX4_firstBeyond_51 : decode cX4_firstBeyond 51 = .ok (.ireturn, 1) := by decide +kernel
theorem dX4_firstReaching_0 : decode cX4_firstReaching 0 = .ok (.aload_n 0, 1) := by decide +kernel
theorem dX4_firstReaching_1 : decode cX4_firstReaching 1 = .ok (.iload_n 1, 1) := by decide +kernel
theorem dX4_firstReaching_2 : decode cX4_firstReaching 2 = .ok (.invokevirtual 53, 3) := by decide +kernel
theorem dX4_firstReaching_5 : decode cX4_firstReaching 5 = .ok (.istore_n 3, 1) := by decide +kernel
theorem dX4_firstReaching_6 : decode cX4_firstReaching 6 = .ok (.iconst 0, 1) := by decide +kernel
theorem dX4_firstReaching_7 : decode cX4_firstReaching 7 = .ok (.istore 4, 2) := by decide +kernel
theorem dX4_firstReaching_9 : decode cX4_firstReaching 9 = .ok (.iload 4, 2) := by decide +kernel
theorem dX4_firstReaching_11 : decode cX4_firstReaching 11 = .ok (.aload_n 0, 1) := by decide +kernel
theorem dX4_firstReaching_12 : decode cX4_firstReaching 12 = .ok (.getfield 35, 3) := by decide +kernel
theorem dX4_firstReaching_15 : decode cX4_firstReaching 15 = .ok (.iload_n 1, 1) := by decide +kernel
theorem dX4_firstReaching_16 : decode cX4_firstReaching 16 = .ok (.invokevirtual 46, 3) := by decide +kernel
theorem dX4_firstReaching_19 : decode cX4_firstReaching 19 = .ok (.if_icmp .ge 24, 3) := by decide +kernel
theorem dX4_firstReaching_22 : decode cX4_firstReaching 22 = .ok (.aload_n 0, 1) := by decide +kernel
theorem dX4_firstReaching_23 : decode cX4_firstReaching 23 = .ok (.iload_n 3, 1) := by decide +kernel
theorem dX4_firstReaching_24 : decode cX4_firstReaching 24 = .ok (.iload 4, 2) := by decide +kernel
theorem dX4_firstReaching_26 : decode cX4_firstReaching 26 = .ok (.iadd, 1) := by decide +kernel
theorem dX4_firstReaching_27 : decode cX4_firstReaching 27 = .ok (.invokevirtual 64, 3) := by decide +kernel
theorem dX4_firstReaching_30 : decode cX4_firstReaching 30 = .ok (.iload_n 2, 1) := by decide +kernel
theorem dX4_firstReaching_31 : decode cX4_firstReaching 31 = .ok (.if_icmp .lt 6, 3) := by decide +kernel
theorem dX4_firstReaching_34 : decode cX4_firstReaching 34 = .ok (.iload 4, 2) := by decide +kernel
theorem dX4_firstReaching_36 : decode cX4_firstReaching 36 = .ok (.ireturn, 1) := by decide +kernel
theorem dX4_firstReaching_37 : decode cX4_firstReaching 37 = .ok (.iinc 4 1, 3) := by decide +kernel
theorem dX4_firstReaching_40 : decode cX4_firstReaching 40 = .ok (.goto (-31), 3) := by decide +kernel
theorem dX4_firstReaching_43 : decode cX4_firstReaching 43 = .ok (.aload_n 0, 1) := by decide +kernel
theorem dX4_firstReaching_44 : decode cX4_firstReaching 44 = .ok (.getfield 35, 3) := by decide +kernel
theorem dX4_firstReaching_47 : decode cX4_firstReaching 47 = .ok (.iload_n 1, 1) := by decide +kernel
theorem dX4_firstReaching_48 : decode cX4_firstReaching 48 = .ok (.invokevirtual 46, 3) := by decide +kernel
theorem dX4_firstReaching_51 : decode cX4_firstReaching 51 = .ok (.ireturn, 1) := by decide +kernel
theorem dX4_insert_0 : decode cX4_insert 0 = .ok (.aload_n 0, 1) := by decide +kernel
theorem dX4_insert_1 : decode cX4_insert 1 = .ok (.iload_n 1, 1) := by decide +kernel
theorem dX4_insert_2 : decode cX4_insert 2 = .ok (.invokevirtual 53, 3) := by decide +kernel
theorem dX4_insert_5 : decode cX4_insert 5 = .ok (.iload_n 2, 1) := by decide +kernel
theorem dX4_insert_6 : decode cX4_insert 6 = .ok (.iadd, 1) := by decide +kernel
theorem dX4_insert_7 : decode cX4_insert 7 = .ok (.istore 8, 2) := by decide +kernel
theorem dX4_insert_9 : decode cX4_insert 9 = .ok (.aload_n 0, 1) := by decide +kernel
theorem dX4_insert_10 : decode cX4_insert 10 = .ok (.iload 8, 2) := by decide +kernel
theorem dX4_insert_12 : decode cX4_insert 12 = .ok (.invokevirtual 50, 3) := by decide +kernel
theorem dX4_insert_15 : decode cX4_insert 15 = .ok (.istore 9, 2) := by decide +kernel
theorem dX4_insert_17 : decode cX4_insert 17 = .ok (.iload 5, 2) := by decide +kernel
theorem dX4_insert_19 : decode cX4_insert 19 = .ok (.iload 4, 2) := by decide +kernel
theorem dX4_insert_21 : decode cX4_insert 21 = .ok (.isub, 1) := by decide +kernel
theorem dX4_insert_22 : decode cX4_insert 22 = .ok (.istore 10, 2) := by decide +kernel
theorem dX4_insert_24 : decode cX4_insert 24 = .ok (.lconst 0, 1) := by decide +kernel
theorem dX4_insert_25 : decode cX4_insert 25 = .ok (.lstore 11, 2) := by decide +kernel
theorem dX4_insert_27 : decode cX4_insert 27 = .ok (.aload_n 0, 1) := by decide +kernel
theorem dX4_insert_28 : decode cX4_insert 28 = .ok (.getfield 14, 3) := by decide +kernel
theorem dX4_insert_31 : decode cX4_insert 31 = .ok (.iload 9, 2) := by decide +kernel
theorem dX4_insert_33 : decode cX4_insert 33 = .ok (.iload 10, 2) := by decide +kernel
theorem dX4_insert_35 : decode cX4_insert 35 = .ok (.invokevirtual 80, 3) := by decide +kernel
theorem dX4_insert_38 : decode cX4_insert 38 = .ok (.iconst 0, 1) := by decide +kernel
theorem dX4_insert_39 : decode cX4_insert 39 = .ok (.istore 13, 2) := by decide +kernel
theorem dX4_insert_41 : decode cX4_insert 41 = .ok (.iload 13, 2) := by decide +kernel
theorem dX4_insert_43 : decode cX4_insert 43 = .ok (.iload 10, 2) := by decide +kernel
theorem dX4_insert_45 : decode cX4_insert 45 = .ok (.if_icmp .ge 55, 3) := by decide +kernel
theorem dX4_insert_48 : decode cX4_insert 48 = .ok (.aload_n 3, 1) := by decide +kernel
theorem dX4_insert_49 : decode cX4_insert 49 = .ok (.iload 4, 2) := by decide +kernel
theorem dX4_insert_51 : decode cX4_insert 51 = .ok (.iload 13, 2) := by decide +kernel
theorem dX4_insert_53 : decode cX4_insert 53 = .ok (.iadd, 1) := by decide +kernel
theorem dX4_insert_54 : decode cX4_insert 54 = .ok (.invokevirtual 46, 3) := by decide +kernel
theorem dX4_insert_57 : decode cX4_insert 57 = .ok (.istore 14, 2) := by decide +kernel
theorem dX4_insert_59 : decode cX4_insert 59 = .ok (.aload_n 0, 1) := by decide +kernel
theorem dX4_insert_60 : decode cX4_insert 60 = .ok (.getfield 14, 3) := by decide +kernel
theorem dX4_insert_63 : decode cX4_insert 63 = .ok (.iload 9, 2) := by decide +kernel
theorem dX4_insert_65 : decode cX4_insert 65 = .ok (.iload 13, 2) := by decide +kernel
theorem dX4_insert_67 : decode cX4_insert 67 = .ok (.iadd, 1) := by decide +kernel
theorem dX4_insert_68 : decode cX4_insert 68 = .ok (.iload 14, 2) := by decide +kernel
theorem dX4_insert_70 : decode cX4_insert 70 = .ok (.invokevirtual 84, 3) := by decide +kernel
theorem dX4_insert_73 : decode cX4_insert 73 = .ok (.lload 11, 2) := by decide +kernel
theorem dX4_insert_75 : decode cX4_insert 75 = .ok (.aload_n 0, 1) := by decide +kernel
theorem dX4_insert_76 : decode cX4_insert 76 = .ok (.getfield 38, 3) := by decide +kernel
theorem dX4_insert_79 : decode cX4_insert 79 = .ok (.iload 14, 2) := by decide +kernel
theorem dX4_insert_81 : decode cX4_insert 81 = .ok (.invokevirtual 56, 3) := by decide +kernel
theorem dX4_insert_84 : decode cX4_insert 84 = .ok (.iload 6, 2) := by decide +kernel
theorem dX4_insert_86 : decode cX4_insert 86 = .ok (.iload 7, 2) := by decide +kernel
theorem dX4_insert_88 : decode cX4_insert 88 = .ok (.invokestatic 87, 3) := by decide +kernel
theorem dX4_insert_91 : decode cX4_insert 91 = .ok (.lor, 1) := by decide +kernel
theorem dX4_insert_92 : decode cX4_insert 92 = .ok (.lstore 11, 2) := by decide +kernel
theorem dX4_insert_94 : decode cX4_insert 94 = .ok (.iinc 13 1, 3) := by decide +kernel
theorem dX4_insert_97 : decode cX4_insert 97 = .ok (.goto (-56), 3) := by decide +kernel
theorem dX4_insert_100 : decode cX4_insert 100 = .ok (.aload_n 0, 1) := by decide +kernel
theorem dX4_insert_101 : decode cX4_insert 101 = .ok (.iload 8, 2) := by decide +kernel
theorem dX4_insert_103 : decode cX4_insert 103 = .ok (.invokevirtual 91, 3) := by decide +kernel
theorem dX4_insert_106 : decode cX4_insert 106 = .ok (.aload_n 0, 1) := by decide +kernel
theorem dX4_insert_107 : decode cX4_insert 107 = .ok (.getfield 20, 3) := by decide +kernel
theorem dX4_insert_110 : decode cX4_insert 110 = .ok (.iload 8, 2) := by decide +kernel
theorem dX4_insert_112 : decode cX4_insert 112 = .ok (.iload 9, 2) := by decide +kernel
theorem dX4_insert_114 : decode cX4_insert 114 = .ok (.iload 10, 2) := by decide +kernel
theorem dX4_insert_116 : decode cX4_insert 116 = .ok (.iadd, 1) := by decide +kernel
theorem dX4_insert_117 : decode cX4_insert 117 = .ok (.invokevirtual 84, 3) := by decide +kernel
theorem dX4_insert_120 : decode cX4_insert 120 = .ok (.iload 8, 2) := by decide +kernel
theorem dX4_insert_122 : decode cX4_insert 122 = .ok (.iconst 1, 1) := by decide +kernel
theorem dX4_insert_123 : decode cX4_insert 123 = .ok (.iadd, 1) := by decide +kernel
theorem dX4_insert_124 : decode cX4_insert 124 = .ok (.istore 13, 2) := by decide +kernel
theorem dX4_insert_126 : decode cX4_insert 126 = .ok (.iload 13, 2) := by decide +kernel
theorem dX4_insert_128 : decode cX4_insert 128 = .ok (.aload_n 0, 1) := by decide +kernel
theorem dX4_insert_129 : decode cX4_insert 129 = .ok (.getfield 20, 3) := by decide +kernel
theorem dX4_insert_132 : decode cX4_insert 132 = .ok (.invokevirtual 42, 3) := by decide +kernel
theorem dX4_insert_135 : decode cX4_insert 135 = .ok (.if_icmp .ge 20, 3) := by decide +kernel
theorem dX4_insert_138 : decode cX4_insert 138 = .ok (.aload_n 0, 1) := by decide +kernel
theorem dX4_insert_139 : decode cX4_insert 139 = .ok (.getfield 20, 3) := by decide +kernel
theorem dX4_insert_142 : decode cX4_insert 142 = .ok (.iload 13, 2) := by decide +kernel
theorem dX4_insert_144 : decode cX4_insert 144 = .ok (.iload 10, 2) := by decide +kernel
theorem dX4_insert_146 : decode cX4_insert 146 = .ok (.invokevirtual 94, 3) := by decide +kernel
theorem dX4_insert_149 : decode cX4_insert 149 = .ok (.iinc 13 1, 3) := by decide +kernel
theorem dX4_insert_152 : decode cX4_insert 152 = .ok (.goto (-26), 3) := by decide +kernel
theorem dX4_insert_155 : decode cX4_insert 155 = .ok (.aload_n 0, 1) := by decide +kernel
theorem dX4_insert_156 : decode cX4_insert 156 = .ok (.getfield 23, 3) := by decide +kernel
theorem dX4_insert_159 : decode cX4_insert 159 = .ok (.iload 8, 2) := by decide +kernel
theorem dX4_insert_161 : decode cX4_insert 161 = .ok (.iload 6, 2) := by decide +kernel
theorem dX4_insert_163 : decode cX4_insert 163 = .ok (.invokevirtual 84, 3) := by decide +kernel
theorem dX4_insert_166 : decode cX4_insert 166 = .ok (.aload_n 0, 1) := by decide +kernel
theorem dX4_insert_167 : decode cX4_insert 167 = .ok (.getfield 26, 3) := by decide +kernel
theorem dX4_insert_170 : decode cX4_insert 170 = .ok (.iload 8, 2) := by decide +kernel
theorem dX4_insert_172 : decode cX4_insert 172 = .ok (.iload 7, 2) := by decide +kernel
theorem dX4_insert_174 : decode cX4_insert 174 = .ok (.invokevirtual 84, 3) := by decide +kernel
theorem dX4_insert_177 : decode cX4_insert 177 = .ok (.aload_n 0, 1) := by decide +kernel
theorem dX4_insert_178 : decode cX4_insert 178 = .ok (.getfield 29, 3) := by decide +kernel
theorem dX4_insert_181 : decode cX4_insert 181 = .ok (.iload 8, 2) := by decide +kernel
theorem dX4_insert_183 : decode cX4_insert 183 = .ok (.lload 11, 2) := by decide +kernel
theorem dX4_insert_185 : decode cX4_insert 185 = .ok (.l2i, 1) := by decide +kernel
theorem dX4_insert_186 : decode cX4_insert 186 = .ok (.invokevirtual 84, 3) := by decide +kernel
theorem dX4_insert_189 : decode cX4_insert 189 = .ok (.aload_n 0, 1) := by decide +kernel
theorem dX4_insert_190 : decode cX4_insert 190 = .ok (.getfield 32, 3) := by decide +kernel
theorem dX4_insert_193 : decode cX4_insert 193 = .ok (.iload 8, 2) := by decide +kernel
theorem dX4_insert_195 : decode cX4_insert 195 = .ok (.lload 11, 2) := by decide +kernel
theorem dX4_insert_197 : decode cX4_insert 197 = .ok (.bipush 32, 2) := by decide +kernel
theorem dX4_insert_199 : decode cX4_insert 199 = .ok (.lushr, 1) := by decide +kernel
theorem dX4_insert_200 : decode cX4_insert 200 = .ok (.l2i, 1) := by decide +kernel
theorem dX4_insert_201 : decode cX4_insert 201 = .ok (.invokevirtual 84, 3) := by decide +kernel
theorem dX4_insert_204 : decode cX4_insert 204 = .ok (.aload_n 0, 1) := by decide +kernel
theorem dX4_insert_205 : decode cX4_insert 205 = .ok (.getfield 35, 3) := by decide +kernel
theorem dX4_insert_208 : decode cX4_insert 208 = .ok (.iload_n 1, 1) := by decide +kernel
theorem dX4_insert_209 : decode cX4_insert 209 = .ok (.iconst 1, 1) := by decide +kernel
theorem dX4_insert_210 : decode cX4_insert 210 = .ok (.invokevirtual 94, 3) := by decide +kernel
theorem dX4_insert_213 : decode cX4_insert 213 = .ok (.return_, 1) := by decide +kernel
theorem dX4_openRun_0 : decode cX4_openRun 0 = .ok (.aload_n 0, 1) := by decide +kernel
theorem dX4_openRun_1 : decode cX4_openRun 1 = .ok (.getfield 20, 3) := by decide +kernel
theorem dX4_openRun_4 : decode cX4_openRun 4 = .ok (.iload_n 1, 1) := by decide +kernel
theorem dX4_openRun_5 : decode cX4_openRun 5 = .ok (.iconst 1, 1) := by decide +kernel
theorem dX4_openRun_6 : decode cX4_openRun 6 = .ok (.invokevirtual 80, 3) := by decide +kernel
theorem dX4_openRun_9 : decode cX4_openRun 9 = .ok (.aload_n 0, 1) := by decide +kernel
theorem dX4_openRun_10 : decode cX4_openRun 10 = .ok (.getfield 23, 3) := by decide +kernel
theorem dX4_openRun_13 : decode cX4_openRun 13 = .ok (.iload_n 1, 1) := by decide +kernel
theorem dX4_openRun_14 : decode cX4_openRun 14 = .ok (.iconst 1, 1) := by decide +kernel
theorem dX4_openRun_15 : decode cX4_openRun 15 = .ok (.invokevirtual 80, 3) := by decide +kernel
theorem dX4_openRun_18 : decode cX4_openRun 18 = .ok (.aload_n 0, 1) := by decide +kernel
theorem dX4_openRun_19 : decode cX4_openRun 19 = .ok (.getfield 26, 3) := by decide +kernel
theorem dX4_openRun_22 : decode cX4_openRun 22 = .ok (.iload_n 1, 1) := by decide +kernel
theorem dX4_openRun_23 : decode cX4_openRun 23 = .ok (.iconst 1, 1) := by decide +kernel
theorem dX4_openRun_24 : decode cX4_openRun 24 = .ok (.invokevirtual 80, 3) := by decide +kernel
theorem dX4_openRun_27 : decode cX4_openRun 27 = .ok (.aload_n 0, 1) := by decide +kernel
theorem dX4_openRun_28 : decode cX4_openRun 28 = .ok (.getfield 29, 3) := by decide +kernel
theorem dX4_openRun_31 : decode cX4_openRun 31 = .ok (.iload_n 1, 1) := by decide +kernel
theorem dX4_openRun_32 : decode cX4_openRun 32 = .ok (.iconst 1, 1) := by decide +kernel
theorem dX4_openRun_33 : decode cX4_openRun 33 = .ok (.invokevirtual 80, 3) := by decide +kernel
theorem dX4_openRun_36 : decode cX4_openRun 36 = .ok (.aload_n 0, 1) := by decide +kernel
theorem dX4_openRun_37 : decode cX4_openRun 37 = .ok (.getfield 32, 3) := by decide +kernel
theorem dX4_openRun_40 : decode cX4_openRun 40 = .ok (.iload_n 1, 1) := by decide +kernel
theorem dX4_openRun_41 : decode cX4_openRun 41 = .ok (.iconst 1, 1) := by decide +kernel
theorem dX4_openRun_42 : decode cX4_openRun 42 = .ok (.invokevirtual 80, 3) := by decide +kernel
theorem dX4_openRun_45 : decode cX4_openRun 45 = .ok (.return_, 1) := by decide +kernel
theorem dX4_cut_0 : decode cX4_cut 0 = .ok (.aload_n 0, 1) := by decide +kernel
theorem dX4_cut_1 : decode cX4_cut 1 = .ok (.iload_n 1, 1) := by decide +kernel
theorem dX4_cut_2 : decode cX4_cut 2 = .ok (.invokevirtual 53, 3) := by decide +kernel
theorem dX4_cut_5 : decode cX4_cut 5 = .ok (.istore 4, 2) := by decide +kernel
theorem dX4_cut_7 : decode cX4_cut 7 = .ok (.iload 4, 2) := by decide +kernel
theorem dX4_cut_9 : decode cX4_cut 9 = .ok (.iload_n 2, 1) := by decide +kernel
theorem dX4_cut_10 : decode cX4_cut 10 = .ok (.iadd, 1) := by decide +kernel
theorem dX4_cut_11 : decode cX4_cut 11 = .ok (.istore 5, 2) := by decide +kernel
theorem dX4_cut_13 : decode cX4_cut 13 = .ok (.iload 4, 2) := by decide +kernel
theorem dX4_cut_15 : decode cX4_cut 15 = .ok (.iload_n 3, 1) := by decide +kernel
theorem dX4_cut_16 : decode cX4_cut 16 = .ok (.iadd, 1) := by decide +kernel
theorem dX4_cut_17 : decode cX4_cut 17 = .ok (.istore 6, 2) := by decide +kernel
theorem dX4_cut_19 : decode cX4_cut 19 = .ok (.aload_n 0, 1) := by decide +kernel
theorem dX4_cut_20 : decode cX4_cut 20 = .ok (.iload 5, 2) := by decide +kernel
theorem dX4_cut_22 : decode cX4_cut 22 = .ok (.invokevirtual 50, 3) := by decide +kernel
theorem dX4_cut_25 : decode cX4_cut 25 = .ok (.istore 7, 2) := by decide +kernel
theorem dX4_cut_27 : decode cX4_cut 27 = .ok (.aload_n 0, 1) := by decide +kernel
theorem dX4_cut_28 : decode cX4_cut 28 = .ok (.iload 6, 2) := by decide +kernel
theorem dX4_cut_30 : decode cX4_cut 30 = .ok (.invokevirtual 50, 3) := by decide +kernel
theorem dX4_cut_33 : decode cX4_cut 33 = .ok (.istore 8, 2) := by decide +kernel
theorem dX4_cut_35 : decode cX4_cut 35 = .ok (.aload_n 0, 1) := by decide +kernel
theorem dX4_cut_36 : decode cX4_cut 36 = .ok (.getfield 14, 3) := by decide +kernel
theorem dX4_cut_39 : decode cX4_cut 39 = .ok (.iload 7, 2) := by decide +kernel
theorem dX4_cut_41 : decode cX4_cut 41 = .ok (.iload 8, 2) := by decide +kernel
theorem dX4_cut_43 : decode cX4_cut 43 = .ok (.invokevirtual 97, 3) := by decide +kernel
theorem dX4_cut_46 : decode cX4_cut 46 = .ok (.aload_n 0, 1) := by decide +kernel
theorem dX4_cut_47 : decode cX4_cut 47 = .ok (.getfield 20, 3) := by decide +kernel
theorem dX4_cut_50 : decode cX4_cut 50 = .ok (.iload 5, 2) := by decide +kernel
theorem dX4_cut_52 : decode cX4_cut 52 = .ok (.iload 6, 2) := by decide +kernel
theorem dX4_cut_54 : decode cX4_cut 54 = .ok (.invokevirtual 97, 3) := by decide +kernel
theorem dX4_cut_57 : decode cX4_cut 57 = .ok (.aload_n 0, 1) := by decide +kernel
theorem dX4_cut_58 : decode cX4_cut 58 = .ok (.getfield 23, 3) := by decide +kernel
theorem dX4_cut_61 : decode cX4_cut 61 = .ok (.iload 5, 2) := by decide +kernel
theorem dX4_cut_63 : decode cX4_cut 63 = .ok (.iload 6, 2) := by decide +kernel
theorem dX4_cut_65 : decode cX4_cut 65 = .ok (.invokevirtual 97, 3) := by decide +kernel
theorem dX4_cut_68 : decode cX4_cut 68 = .ok (.aload_n 0, 1) := by decide +kernel
theorem dX4_cut_69 : decode cX4_cut 69 = .ok (.getfield 26, 3) := by decide +kernel
theorem dX4_cut_72 : decode cX4_cut 72 = .ok (.iload 5, 2) := by decide +kernel
theorem dX4_cut_74 : decode cX4_cut 74 = .ok (.iload 6, 2) := by decide +kernel
theorem dX4_cut_76 : decode cX4_cut 76 = .ok (.invokevirtual 97, 3) := by decide +kernel
theorem dX4_cut_79 : decode cX4_cut 79 = .ok (.aload_n 0, 1) := by decide +kernel
theorem dX4_cut_80 : decode cX4_cut 80 = .ok (.getfield 29, 3) := by decide +kernel
theorem dX4_cut_83 : decode cX4_cut 83 = .ok (.iload 5, 2) := by decide +kernel
theorem dX4_cut_85 : decode cX4_cut 85 = .ok (.iload 6, 2) := by decide +kernel
theorem dX4_cut_87 : decode cX4_cut 87 = .ok (.invokevirtual 97, 3) := by decide +kernel
theorem dX4_cut_90 : decode cX4_cut 90 = .ok (.aload_n 0, 1) := by decide +kernel
theorem dX4_cut_91 : decode cX4_cut 91 = .ok (.getfield 32, 3) := by decide +kernel
theorem dX4_cut_94 : decode cX4_cut 94 = .ok (.iload 5, 2) := by decide +kernel
theorem dX4_cut_96 : decode cX4_cut 96 = .ok (.iload 6, 2) := by decide +kernel
theorem dX4_cut_98 : decode cX4_cut 98 = .ok (.invokevirtual 97, 3) := by decide +kernel
theorem dX4_cut_101 : decode cX4_cut 101 = .ok (.iload 5, 2) := by decide +kernel
theorem dX4_cut_103 : decode cX4_cut 103 = .ok (.istore 9, 2) := by decide +kernel
theorem dX4_cut_105 : decode cX4_cut 105 = .ok (.iload 9, 2) := by decide +kernel
theorem dX4_cut_107 : decode cX4_cut 107 = .ok (.aload_n 0, 1) := by decide +kernel
theorem dX4_cut_108 : decode cX4_cut 108 = .ok (.getfield 20, 3) := by decide +kernel
theorem dX4_cut_111 : decode cX4_cut 111 = .ok (.invokevirtual 42, 3) := by decide +kernel
theorem dX4_cut_114 : decode cX4_cut 114 = .ok (.if_icmp .ge 23, 3) := by decide +kernel
theorem dX4_cut_117 : decode cX4_cut 117 = .ok (.aload_n 0, 1) := by decide +kernel
theorem dX4_cut_118 : decode cX4_cut 118 = .ok (.getfield 20, 3) := by decide +kernel
theorem dX4_cut_121 : decode cX4_cut 121 = .ok (.iload 9, 2) := by decide +kernel
theorem dX4_cut_123 : decode cX4_cut 123 = .ok (.iload 7, 2) := by decide +kernel
theorem dX4_cut_125 : decode cX4_cut 125 = .ok (.iload 8, 2) := by decide +kernel
theorem dX4_cut_127 : decode cX4_cut 127 = .ok (.isub, 1) := by decide +kernel
theorem dX4_cut_128 : decode cX4_cut 128 = .ok (.invokevirtual 94, 3) := by decide +kernel
theorem dX4_cut_131 : decode cX4_cut 131 = .ok (.iinc 9 1, 3) := by decide +kernel
theorem dX4_cut_134 : decode cX4_cut 134 = .ok (.goto (-29), 3) := by decide +kernel
theorem dX4_cut_137 : decode cX4_cut 137 = .ok (.aload_n 0, 1) := by decide +kernel
theorem dX4_cut_138 : decode cX4_cut 138 = .ok (.getfield 35, 3) := by decide +kernel
theorem dX4_cut_141 : decode cX4_cut 141 = .ok (.iload_n 1, 1) := by decide +kernel
theorem dX4_cut_142 : decode cX4_cut 142 = .ok (.iload_n 2, 1) := by decide +kernel
theorem dX4_cut_143 : decode cX4_cut 143 = .ok (.iload_n 3, 1) := by decide +kernel
theorem dX4_cut_144 : decode cX4_cut 144 = .ok (.isub, 1) := by decide +kernel
theorem dX4_cut_145 : decode cX4_cut 145 = .ok (.invokevirtual 94, 3) := by decide +kernel
theorem dX4_cut_148 : decode cX4_cut 148 = .ok (.return_, 1) := by decide +kernel
theorem dX4_setBits_0 : decode cX4_setBits 0 = .ok (.aload_n 0, 1) := by decide +kernel
theorem dX4_setBits_1 : decode cX4_setBits 1 = .ok (.getfield 23, 3) := by decide +kernel
theorem dX4_setBits_4 : decode cX4_setBits 4 = .ok (.iload_n 1, 1) := by decide +kernel
theorem dX4_setBits_5 : decode cX4_setBits 5 = .ok (.invokevirtual 46, 3) := by decide +kernel
theorem dX4_setBits_8 : decode cX4_setBits 8 = .ok (.ifCond .le 14, 3) := by decide +kernel
theorem dX4_setBits_11 : decode cX4_setBits 11 = .ok (.aload_n 0, 1) := by decide +kernel
theorem dX4_setBits_12 : decode cX4_setBits 12 = .ok (.iload_n 1, 1) := by decide +kernel
theorem dX4_setBits_13 : decode cX4_setBits 13 = .ok (.invokevirtual 100, 3) := by decide +kernel
theorem dX4_setBits_16 : decode cX4_setBits 16 = .ok (.invokestatic 104, 3) := by decide +kernel
theorem dX4_setBits_19 : decode cX4_setBits 19 = .ok (.goto 4, 3) := by decide +kernel
theorem dX4_setBits_22 : decode cX4_setBits 22 = .ok (.iconst (-1), 1) := by decide +kernel
theorem dX4_setBits_23 : decode cX4_setBits 23 = .ok (.ireturn, 1) := by decide +kernel
theorem dX4_passes_0 : decode cX4_passes 0 = .ok (.iload_n 2, 1) := by decide +kernel
theorem dX4_passes_1 : decode cX4_passes 1 = .ok (.aload_n 0, 1) := by decide +kernel
theorem dX4_passes_2 : decode cX4_passes 2 = .ok (.getfield 23, 3) := by decide +kernel
theorem dX4_passes_5 : decode cX4_passes 5 = .ok (.iload_n 1, 1) := by decide +kernel
theorem dX4_passes_6 : decode cX4_passes 6 = .ok (.invokevirtual 46, 3) := by decide +kernel
theorem dX4_passes_9 : decode cX4_passes 9 = .ok (.aload_n 0, 1) := by decide +kernel
theorem dX4_passes_10 : decode cX4_passes 10 = .ok (.getfield 26, 3) := by decide +kernel
theorem dX4_passes_13 : decode cX4_passes 13 = .ok (.iload_n 1, 1) := by decide +kernel
theorem dX4_passes_14 : decode cX4_passes 14 = .ok (.invokevirtual 46, 3) := by decide +kernel
theorem dX4_passes_17 : decode cX4_passes 17 = .ok (.invokestatic 87, 3) := by decide +kernel
theorem dX4_passes_20 : decode cX4_passes 20 = .ok (.lstore_n 3, 1) := by decide +kernel
theorem dX4_passes_21 : decode cX4_passes 21 = .ok (.aload_n 0, 1) := by decide +kernel
theorem dX4_passes_22 : decode cX4_passes 22 = .ok (.iload_n 1, 1) := by decide +kernel
theorem dX4_passes_23 : decode cX4_passes 23 = .ok (.invokevirtual 100, 3) := by decide +kernel
theorem dX4_passes_26 : decode cX4_passes 26 = .ok (.lload_n 3, 1) := by decide +kernel
theorem dX4_passes_27 : decode cX4_passes 27 = .ok (.land, 1) := by decide +kernel
theorem dX4_passes_28 : decode cX4_passes 28 = .ok (.lload_n 3, 1) := by decide +kernel
theorem dX4_passes_29 : decode cX4_passes 29 = .ok (.lcmp, 1) := by decide +kernel
theorem dX4_passes_30 : decode cX4_passes 30 = .ok (.ifCond .ne 7, 3) := by decide +kernel
theorem dX4_passes_33 : decode cX4_passes 33 = .ok (.iconst 1, 1) := by decide +kernel
theorem dX4_passes_34 : decode cX4_passes 34 = .ok (.goto 4, 3) := by decide +kernel
theorem dX4_passes_37 : decode cX4_passes 37 = .ok (.iconst 0, 1) := by decide +kernel
theorem dX4_passes_38 : decode cX4_passes 38 = .ok (.ireturn, 1) := by decide +kernel
theorem dX4_filterOf_0 : decode cX4_filterOf 0 = .ok (.aload_n 0, 1) := by decide +kernel
theorem dX4_filterOf_1 : decode cX4_filterOf 1 = .ok (.getfield 32, 3) := by decide +kernel
theorem dX4_filterOf_4 : decode cX4_filterOf 4 = .ok (.iload_n 1, 1) := by decide +kernel
theorem dX4_filterOf_5 : decode cX4_filterOf 5 = .ok (.invokevirtual 46, 3) := by decide +kernel
theorem dX4_filterOf_8 : decode cX4_filterOf 8 = .ok (.i2l, 1) := by decide +kernel
theorem dX4_filterOf_9 : decode cX4_filterOf 9 = .ok (.bipush 32, 2) := by decide +kernel
theorem dX4_filterOf_11 : decode cX4_filterOf 11 = .ok (.lshl, 1) := by decide +kernel
theorem dX4_filterOf_12 : decode cX4_filterOf 12 = .ok (.aload_n 0, 1) := by decide +kernel
theorem dX4_filterOf_13 : decode cX4_filterOf 13 = .ok (.getfield 29, 3) := by decide +kernel
theorem dX4_filterOf_16 : decode cX4_filterOf 16 = .ok (.iload_n 1, 1) := by decide +kernel
theorem dX4_filterOf_17 : decode cX4_filterOf 17 = .ok (.invokevirtual 46, 3) := by decide +kernel
theorem dX4_filterOf_20 : decode cX4_filterOf 20 = .ok (.i2l, 1) := by decide +kernel
theorem dX4_filterOf_21 : decode cX4_filterOf 21 = .ok (.ldc2_w 110, 3) := by decide +kernel
theorem dX4_filterOf_24 : decode cX4_filterOf 24 = .ok (.land, 1) := by decide +kernel
theorem dX4_filterOf_25 : decode cX4_filterOf 25 = .ok (.lor, 1) := by decide +kernel
theorem dX4_filterOf_26 : decode cX4_filterOf 26 = .ok (.lreturn, 1) := by decide +kernel
theorem dX4_bitsOf_0 : decode cX4_bitsOf 0 = .ok (.lconst 0, 1) := by decide +kernel
theorem dX4_bitsOf_1 : decode cX4_bitsOf 1 = .ok (.lstore_n 3, 1) := by decide +kernel
theorem dX4_bitsOf_2 : decode cX4_bitsOf 2 = .ok (.iload_n 1, 1) := by decide +kernel
theorem dX4_bitsOf_3 : decode cX4_bitsOf 3 = .ok (.ifCond .le 39, 3) := by decide +kernel
theorem dX4_bitsOf_6 : decode cX4_bitsOf 6 = .ok (.iconst 1, 1) := by decide +kernel
theorem dX4_bitsOf_7 : decode cX4_bitsOf 7 = .ok (.istore 5, 2) := by decide +kernel
theorem dX4_bitsOf_9 : decode cX4_bitsOf 9 = .ok (.iload 5, 2) := by decide +kernel
theorem dX4_bitsOf_11 : decode cX4_bitsOf 11 = .ok (.iload_n 2, 1) := by decide +kernel
theorem dX4_bitsOf_12 : decode cX4_bitsOf 12 = .ok (.if_icmp .gt 30, 3) := by decide +kernel
theorem dX4_bitsOf_15 : decode cX4_bitsOf 15 = .ok (.lload_n 3, 1) := by decide +kernel
theorem dX4_bitsOf_16 : decode cX4_bitsOf 16 = .ok (.lconst 1, 1) := by decide +kernel
theorem dX4_bitsOf_17 : decode cX4_bitsOf 17 = .ok (.iload_n 0, 1) := by decide +kernel
theorem dX4_bitsOf_18 : decode cX4_bitsOf 18 = .ok (.iconst 2, 1) := by decide +kernel
theorem dX4_bitsOf_19 : decode cX4_bitsOf 19 = .ok (.iload 5, 2) := by decide +kernel
theorem dX4_bitsOf_21 : decode cX4_bitsOf 21 = .ok (.imul, 1) := by decide +kernel
theorem dX4_bitsOf_22 : decode cX4_bitsOf 22 = .ok (.iconst 1, 1) := by decide +kernel
theorem dX4_bitsOf_23 : decode cX4_bitsOf 23 = .ok (.iadd, 1) := by decide +kernel
theorem dX4_bitsOf_24 : decode cX4_bitsOf 24 = .ok (.imul, 1) := by decide +kernel
theorem dX4_bitsOf_25 : decode cX4_bitsOf 25 = .ok (.bipush 7, 2) := by decide +kernel
theorem dX4_bitsOf_27 : decode cX4_bitsOf 27 = .ok (.iload 5, 2) := by decide +kernel
theorem dX4_bitsOf_29 : decode cX4_bitsOf 29 = .ok (.imul, 1) := by decide +kernel
theorem dX4_bitsOf_30 : decode cX4_bitsOf 30 = .ok (.iadd, 1) := by decide +kernel
theorem dX4_bitsOf_31 : decode cX4_bitsOf 31 = .ok (.iload_n 1, 1) := by decide +kernel
theorem dX4_bitsOf_32 : decode cX4_bitsOf 32 = .ok (.irem, 1) := by decide +kernel
theorem dX4_bitsOf_33 : decode cX4_bitsOf 33 = .ok (.lshl, 1) := by decide +kernel
theorem dX4_bitsOf_34 : decode cX4_bitsOf 34 = .ok (.lor, 1) := by decide +kernel
theorem dX4_bitsOf_35 : decode cX4_bitsOf 35 = .ok (.lstore_n 3, 1) := by decide +kernel
theorem dX4_bitsOf_36 : decode cX4_bitsOf 36 = .ok (.iinc 5 1, 3) := by decide +kernel
theorem dX4_bitsOf_39 : decode cX4_bitsOf 39 = .ok (.goto (-30), 3) := by decide +kernel
theorem dX4_bitsOf_42 : decode cX4_bitsOf 42 = .ok (.lload_n 3, 1) := by decide +kernel
theorem dX4_bitsOf_43 : decode cX4_bitsOf 43 = .ok (.lreturn, 1) := by decide +kernel
theorem dX5_init_0 : decode cX5_init 0 = .ok (.aload_n 0, 1) := by decide +kernel
theorem dX5_init_1 : decode cX5_init 1 = .ok (.invokespecial 3, 3) := by decide +kernel
theorem dX5_init_4 : decode cX5_init 4 = .ok (.aload_n 0, 1) := by decide +kernel
theorem dX5_init_5 : decode cX5_init 5 = .ok (.new 9, 3) := by decide +kernel
theorem dX5_init_8 : decode cX5_init 8 = .ok (.dup, 1) := by decide +kernel
theorem dX5_init_9 : decode cX5_init 9 = .ok (.iconst 4, 1) := by decide +kernel
theorem dX5_init_10 : decode cX5_init 10 = .ok (.invokespecial 11, 3) := by decide +kernel
theorem dX5_init_13 : decode cX5_init 13 = .ok (.putfield 14, 3) := by decide +kernel
theorem dX5_init_16 : decode cX5_init 16 = .ok (.aload_n 0, 1) := by decide +kernel
theorem dX5_init_17 : decode cX5_init 17 = .ok (.new 9, 3) := by decide +kernel
theorem dX5_init_20 : decode cX5_init 20 = .ok (.dup, 1) := by decide +kernel
theorem dX5_init_21 : decode cX5_init 21 = .ok (.iconst 4, 1) := by decide +kernel
theorem dX5_init_22 : decode cX5_init 22 = .ok (.invokespecial 11, 3) := by decide +kernel
theorem dX5_init_25 : decode cX5_init 25 = .ok (.putfield 20, 3) := by decide +kernel
theorem dX5_init_28 : decode cX5_init 28 = .ok (.return_, 1) := by decide +kernel
theorem dX5_there_0 : decode cX5_there 0 = .ok (.aload_n 0, 1) := by decide +kernel
theorem dX5_there_1 : decode cX5_there 1 = .ok (.getfield 14, 3) := by decide +kernel
theorem dX5_there_4 : decode cX5_there 4 = .ok (.invokevirtual 23, 3) := by decide +kernel
theorem dX5_there_7 : decode cX5_there 7 = .ok (.ireturn, 1) := by decide +kernel
theorem dX5_age_0 : decode cX5_age 0 = .ok (.aload_n 0, 1) := by decide +kernel
theorem dX5_age_1 : decode cX5_age 1 = .ok (.getfield 20, 3) := by decide +kernel
theorem dX5_age_4 : decode cX5_age 4 = .ok (.iload_n 1, 1) := by decide +kernel
theorem dX5_age_5 : decode cX5_age 5 = .ok (.invokevirtual 27, 3) := by decide +kernel
theorem dX5_age_8 : decode cX5_age 8 = .ok (.ireturn, 1) := by decide +kernel
theorem dX5_take_0 : decode cX5_take 0 = .ok (.aload_n 0, 1) := by decide +kernel
theorem dX5_take_1 : decode cX5_take 1 = .ok (.getfield 31, 3) := by decide +kernel
theorem dX5_take_4 : decode cX5_take 4 = .ok (.istore_n 2, 1) := by decide +kernel
theorem dX5_take_5 : decode cX5_take 5 = .ok (.aload_n 0, 1) := by decide +kernel
theorem dX5_take_6 : decode cX5_take 6 = .ok (.getfield 14, 3) := by decide +kernel
theorem dX5_take_9 : decode cX5_take 9 = .ok (.iload_n 2, 1) := by decide +kernel
theorem dX5_take_10 : decode cX5_take 10 = .ok (.invokevirtual 35, 3) := by decide +kernel
theorem dX5_take_13 : decode cX5_take 13 = .ok (.aload_n 0, 1) := by decide +kernel
theorem dX5_take_14 : decode cX5_take 14 = .ok (.getfield 20, 3) := by decide +kernel
theorem dX5_take_17 : decode cX5_take 17 = .ok (.iload_n 1, 1) := by decide +kernel
theorem dX5_take_18 : decode cX5_take 18 = .ok (.invokevirtual 35, 3) := by decide +kernel
theorem dX5_take_21 : decode cX5_take 21 = .ok (.aload_n 0, 1) := by decide +kernel
theorem dX5_take_22 : decode cX5_take 22 = .ok (.dup, 1) := by decide +kernel
theorem dX5_take_23 : decode cX5_take 23 = .ok (.getfield 31, 3) := by decide +kernel
theorem dX5_take_26 : decode cX5_take 26 = .ok (.iconst 1, 1) := by decide +kernel
theorem dX5_take_27 : decode cX5_take 27 = .ok (.iadd, 1) := by decide +kernel
theorem dX5_take_28 : decode cX5_take 28 = .ok (.putfield 31, 3) := by decide +kernel
theorem dX5_take_31 : decode cX5_take 31 = .ok (.iload_n 2, 1) := by decide +kernel
theorem dX5_take_32 : decode cX5_take 32 = .ok (.ireturn, 1) := by decide +kernel
theorem dX5_placeOf_0 : decode cX5_placeOf 0 = .ok (.iconst 0, 1) := by decide +kernel
theorem dX5_placeOf_1 : decode cX5_placeOf 1 = .ok (.istore_n 2, 1) := by decide +kernel
theorem dX5_placeOf_2 : decode cX5_placeOf 2 = .ok (.iload_n 2, 1) := by decide +kernel
theorem dX5_placeOf_3 : decode cX5_placeOf 3 = .ok (.aload_n 0, 1) := by decide +kernel
theorem dX5_placeOf_4 : decode cX5_placeOf 4 = .ok (.getfield 14, 3) := by decide +kernel
theorem dX5_placeOf_7 : decode cX5_placeOf 7 = .ok (.invokevirtual 23, 3) := by decide +kernel
theorem dX5_placeOf_10 : decode cX5_placeOf 10 = .ok (.if_icmp .ge 23, 3) := by decide +kernel
theorem dX5_placeOf_13 : decode cX5_placeOf 13 = .ok (.aload_n 0, 1) := by decide +kernel
theorem dX5_placeOf_14 : decode cX5_placeOf 14 = .ok (.getfield 14, 3) := by decide +kernel
theorem dX5_placeOf_17 : decode cX5_placeOf 17 = .ok (.iload_n 2, 1) := by decide +kernel
theorem dX5_placeOf_18 : decode cX5_placeOf 18 = .ok (.invokevirtual 27, 3) := by decide +kernel
theorem dX5_placeOf_21 : decode cX5_placeOf 21 = .ok (.iload_n 1, 1) := by decide +kernel
theorem dX5_placeOf_22 : decode cX5_placeOf 22 = .ok (.if_icmp .ne 5, 3) := by decide +kernel
theorem dX5_placeOf_25 : decode cX5_placeOf 25 = .ok (.iload_n 2, 1) := by decide +kernel
theorem dX5_placeOf_26 : decode cX5_placeOf 26 = .ok (.ireturn, 1) := by decide +kernel
theorem dX5_placeOf_27 : decode cX5_placeOf 27 = .ok (.iinc 2 1, 3) := by decide +kernel
theorem dX5_placeOf_30 : decode cX5_placeOf 30 = .ok (.goto (-28), 3) := by decide +kernel
theorem dX5_placeOf_33 : decode cX5_placeOf 33 = .ok (.iconst (-1), 1) := by decide +kernel
theorem dX5_placeOf_34 : decode cX5_placeOf 34 = .ok (.ireturn, 1) := by decide +kernel
theorem dX5_letGo_0 : decode cX5_letGo 0 = .ok (.aload_n 0, 1) := by decide +kernel
theorem dX5_letGo_1 : decode cX5_letGo 1 = .ok (.getfield 14, 3) := by decide +kernel
theorem dX5_letGo_4 : decode cX5_letGo 4 = .ok (.iload_n 1, 1) := by decide +kernel
theorem dX5_letGo_5 : decode cX5_letGo 5 = .ok (.iload_n 1, 1) := by decide +kernel
theorem dX5_letGo_6 : decode cX5_letGo 6 = .ok (.iconst 1, 1) := by decide +kernel
theorem dX5_letGo_7 : decode cX5_letGo 7 = .ok (.iadd, 1) := by decide +kernel
theorem dX5_letGo_8 : decode cX5_letGo 8 = .ok (.invokevirtual 38, 3) := by decide +kernel
theorem dX5_letGo_11 : decode cX5_letGo 11 = .ok (.aload_n 0, 1) := by decide +kernel
theorem dX5_letGo_12 : decode cX5_letGo 12 = .ok (.getfield 20, 3) := by decide +kernel
theorem dX5_letGo_15 : decode cX5_letGo 15 = .ok (.iload_n 1, 1) := by decide +kernel
theorem dX5_letGo_16 : decode cX5_letGo 16 = .ok (.iload_n 1, 1) := by decide +kernel
theorem dX5_letGo_17 : decode cX5_letGo 17 = .ok (.iconst 1, 1) := by decide +kernel
theorem dX5_letGo_18 : decode cX5_letGo 18 = .ok (.iadd, 1) := by decide +kernel
theorem dX5_letGo_19 : decode cX5_letGo 19 = .ok (.invokevirtual 38, 3) := by decide +kernel
theorem dX5_letGo_22 : decode cX5_letGo 22 = .ok (.return_, 1) := by decide +kernel
theorem dX5_loseAll_0 : decode cX5_loseAll 0 = .ok (.aload_n 0, 1) := by decide +kernel
theorem dX5_loseAll_1 : decode cX5_loseAll 1 = .ok (.getfield 14, 3) := by decide +kernel
theorem dX5_loseAll_4 : decode cX5_loseAll 4 = .ok (.invokevirtual 42, 3) := by decide +kernel
theorem dX5_loseAll_7 : decode cX5_loseAll 7 = .ok (.aload_n 0, 1) := by decide +kernel
theorem dX5_loseAll_8 : decode cX5_loseAll 8 = .ok (.getfield 20, 3) := by decide +kernel
theorem dX5_loseAll_11 : decode cX5_loseAll 11 = .ok (.invokevirtual 42, 3) := by decide +kernel
theorem dX5_loseAll_14 : decode cX5_loseAll 14 = .ok (.return_, 1) := by decide +kernel
theorem dX5_see_0 : decode cX5_see 0 = .ok (.iconst 0, 1) := by decide +kernel
theorem dX5_see_1 : decode cX5_see 1 = .ok (.istore_n 3, 1) := by decide +kernel
theorem dX5_see_2 : decode cX5_see 2 = .ok (.iload_n 3, 1) := by decide +kernel
theorem dX5_see_3 : decode cX5_see 3 = .ok (.aload_n 0, 1) := by decide +kernel
theorem dX5_see_4 : decode cX5_see 4 = .ok (.getfield 20, 3) := by decide +kernel
theorem dX5_see_7 : decode cX5_see 7 = .ok (.invokevirtual 23, 3) := by decide +kernel
theorem dX5_see_10 : decode cX5_see 10 = .ok (.if_icmp .ge 35, 3) := by decide +kernel
theorem dX5_see_13 : decode cX5_see 13 = .ok (.aload_n 0, 1) := by decide +kernel
theorem dX5_see_14 : decode cX5_see 14 = .ok (.getfield 20, 3) := by decide +kernel
theorem dX5_see_17 : decode cX5_see 17 = .ok (.iload_n 3, 1) := by decide +kernel
theorem dX5_see_18 : decode cX5_see 18 = .ok (.invokevirtual 27, 3) := by decide +kernel
theorem dX5_see_21 : decode cX5_see 21 = .ok (.iload_n 1, 1) := by decide +kernel
theorem dX5_see_22 : decode cX5_see 22 = .ok (.if_icmp .lt 17, 3) := by decide +kernel
theorem dX5_see_25 : decode cX5_see 25 = .ok (.aload_n 0, 1) := by decide +kernel
theorem dX5_see_26 : decode cX5_see 26 = .ok (.getfield 20, 3) := by decide +kernel
theorem dX5_see_29 : decode cX5_see 29 = .ok (.iload_n 3, 1) := by decide +kernel
theorem dX5_see_30 : decode cX5_see 30 = .ok (.invokevirtual 27, 3) := by decide +kernel
theorem dX5_see_33 : decode cX5_see 33 = .ok (.iload_n 2, 1) := by decide +kernel
theorem dX5_see_34 : decode cX5_see 34 = .ok (.if_icmp .ge 5, 3) := by decide +kernel
theorem dX5_see_37 : decode cX5_see 37 = .ok (.iconst 1, 1) := by decide +kernel
theorem dX5_see_38 : decode cX5_see 38 = .ok (.ireturn, 1) := by decide +kernel
theorem dX5_see_39 : decode cX5_see 39 = .ok (.iinc 3 1, 3) := by decide +kernel
theorem dX5_see_42 : decode cX5_see 42 = .ok (.goto (-40), 3) := by decide +kernel
theorem dX5_see_45 : decode cX5_see 45 = .ok (.iconst 0, 1) := by decide +kernel
theorem dX5_see_46 : decode cX5_see 46 = .ok (.ireturn, 1) := by decide +kernel
theorem dX6_init_0 : decode cX6_init 0 = .ok (.aload_n 0, 1) := by decide +kernel
theorem dX6_init_1 : decode cX6_init 1 = .ok (.invokespecial 1, 3) := by decide +kernel
theorem dX6_init_4 : decode cX6_init 4 = .ok (.aload_n 0, 1) := by decide +kernel
theorem dX6_init_5 : decode cX6_init 5 = .ok (.iconst 4, 1) := by decide +kernel
theorem dX6_init_6 : decode cX6_init 6 = .ok (.putfield 7, 3) := by decide +kernel
theorem dX6_init_9 : decode cX6_init 9 = .ok (.aload_n 0, 1) := by decide +kernel
theorem dX6_init_10 : decode cX6_init 10 = .ok (.iconst 0, 1) := by decide +kernel
theorem dX6_init_11 : decode cX6_init 11 = .ok (.putfield 13, 3) := by decide +kernel
theorem dX6_init_14 : decode cX6_init 14 = .ok (.aload_n 0, 1) := by decide +kernel
theorem dX6_init_15 : decode cX6_init 15 = .ok (.iconst 2, 1) := by decide +kernel
theorem dX6_init_16 : decode cX6_init 16 = .ok (.putfield 16, 3) := by decide +kernel
theorem dX6_init_19 : decode cX6_init 19 = .ok (.aload_n 0, 1) := by decide +kernel
theorem dX6_init_20 : decode cX6_init 20 = .ok (.iconst 4, 1) := by decide +kernel
theorem dX6_init_21 : decode cX6_init 21 = .ok (.putfield 19, 3) := by decide +kernel
theorem dX6_init_24 : decode cX6_init 24 = .ok (.aload_n 0, 1) := by decide +kernel
theorem dX6_init_25 : decode cX6_init 25 = .ok (.bipush 16, 2) := by decide +kernel
theorem dX6_init_27 : decode cX6_init 27 = .ok (.putfield 22, 3) := by decide +kernel
theorem dX6_init_30 : decode cX6_init 30 = .ok (.aload_n 0, 1) := by decide +kernel
theorem dX6_init_31 : decode cX6_init 31 = .ok (.iconst 2, 1) := by decide +kernel
theorem dX6_init_32 : decode cX6_init 32 = .ok (.putfield 25, 3) := by decide +kernel
theorem dX6_init_35 : decode cX6_init 35 = .ok (.aload_n 0, 1) := by decide +kernel
theorem dX6_init_36 : decode cX6_init 36 = .ok (.iconst 1, 1) := by decide +kernel
theorem dX6_init_37 : decode cX6_init 37 = .ok (.putfield 28, 3) := by decide +kernel
theorem dX6_init_40 : decode cX6_init 40 = .ok (.aload_n 0, 1) := by decide +kernel
theorem dX6_init_41 : decode cX6_init 41 = .ok (.new 31, 3) := by decide +kernel
theorem dX6_init_44 : decode cX6_init 44 = .ok (.dup, 1) := by decide +kernel
theorem dX6_init_45 : decode cX6_init 45 = .ok (.bipush 6, 2) := by decide +kernel
theorem dX6_init_47 : decode cX6_init 47 = .ok (.invokespecial 33, 3) := by decide +kernel
theorem dX6_init_50 : decode cX6_init 50 = .ok (.putfield 36, 3) := by decide +kernel
theorem dX6_init_53 : decode cX6_init 53 = .ok (.aload_n 0, 1) := by decide +kernel
theorem dX6_init_54 : decode cX6_init 54 = .ok (.new 31, 3) := by decide +kernel
theorem dX6_init_57 : decode cX6_init 57 = .ok (.dup, 1) := by decide +kernel
theorem dX6_init_58 : decode cX6_init 58 = .ok (.bipush 6, 2) := by decide +kernel
theorem dX6_init_60 : decode cX6_init 60 = .ok (.invokespecial 33, 3) := by decide +kernel
theorem dX6_init_63 : decode cX6_init 63 = .ok (.putfield 40, 3) := by decide +kernel
theorem dX6_init_66 : decode cX6_init 66 = .ok (.aload_n 0, 1) := by decide +kernel
theorem dX6_init_67 : decode cX6_init 67 = .ok (.new 31, 3) := by decide +kernel
theorem dX6_init_70 : decode cX6_init 70 = .ok (.dup, 1) := by decide +kernel
theorem dX6_init_71 : decode cX6_init 71 = .ok (.iconst 4, 1) := by decide +kernel
theorem dX6_init_72 : decode cX6_init 72 = .ok (.invokespecial 33, 3) := by decide +kernel
theorem dX6_init_75 : decode cX6_init 75 = .ok (.putfield 43, 3) := by decide +kernel
theorem dX6_init_78 : decode cX6_init 78 = .ok (.aload_n 0, 1) := by decide +kernel
theorem dX6_init_79 : decode cX6_init 79 = .ok (.new 46, 3) := by decide +kernel
theorem dX6_init_82 : decode cX6_init 82 = .ok (.dup, 1) := by decide +kernel
theorem dX6_init_83 : decode cX6_init 83 = .ok (.invokespecial 48, 3) := by decide +kernel
theorem dX6_init_86 : decode cX6_init 86 = .ok (.putfield 49, 3) := by decide +kernel
theorem dX6_init_89 : decode cX6_init 89 = .ok (.new 53, 3) := by decide +kernel
theorem dX6_init_92 : decode cX6_init 92 = .ok (.dup, 1) := by decide +kernel
theorem dX6_init_93 : decode cX6_init 93 = .ok (.invokespecial 55, 3) := by decide +kernel
theorem dX6_init_96 : decode cX6_init 96 = .ok (.astore_n 1, 1) := by decide +kernel
theorem dX6_init_97 : decode cX6_init 97 = .ok (.new 56, 3) := by decide +kernel
theorem dX6_init_100 : decode cX6_init 100 = .ok (.dup, 1) := by decide +kernel
theorem dX6_init_101 : decode cX6_init 101 = .ok (.invokespecial 58, 3) := by decide +kernel
theorem dX6_init_104 : decode cX6_init 104 = .ok (.astore_n 2, 1) := by decide +kernel
theorem dX6_init_105 : decode cX6_init 105 = .ok (.aload_n 0, 1) := by decide +kernel
theorem dX6_init_106 : decode cX6_init 106 = .ok (.aload_n 1, 1) := by decide +kernel
theorem dX6_init_107 : decode cX6_init 107 = .ok (.putfield 59, 3) := by decide +kernel
theorem dX6_init_110 : decode cX6_init 110 = .ok (.aload_n 0, 1) := by decide +kernel
theorem dX6_init_111 : decode cX6_init 111 = .ok (.aload_n 2, 1) := by decide +kernel
theorem dX6_init_112 : decode cX6_init 112 = .ok (.putfield 63, 3) := by decide +kernel
theorem dX6_init_115 : decode cX6_init 115 = .ok (.aload_n 0, 1) := by decide +kernel
theorem dX6_init_116 : decode cX6_init 116 = .ok (.new 67, 3) := by decide +kernel
theorem dX6_init_119 : decode cX6_init 119 = .ok (.dup, 1) := by decide +kernel
theorem dX6_init_120 : decode cX6_init 120 = .ok (.aload_n 1, 1) := by decide +kernel
theorem dX6_init_121 : decode cX6_init 121 = .ok (.invokespecial 69, 3) := by decide +kernel
theorem dX6_init_124 : decode cX6_init 124 = .ok (.putfield 72, 3) := by decide +kernel
theorem dX6_init_127 : decode cX6_init 127 = .ok (.aload_n 0, 1) := by decide +kernel
theorem dX6_init_128 : decode cX6_init 128 = .ok (.new 76, 3) := by decide +kernel
theorem dX6_init_131 : decode cX6_init 131 = .ok (.dup, 1) := by decide +kernel
theorem dX6_init_132 : decode cX6_init 132 = .ok (.aload_n 1, 1) := by decide +kernel
theorem dX6_init_133 : decode cX6_init 133 = .ok (.aload_n 2, 1) := by decide +kernel
theorem dX6_init_134 : decode cX6_init 134 = .ok (.invokespecial 78, 3) := by decide +kernel
theorem dX6_init_137 : decode cX6_init 137 = .ok (.putfield 81, 3) := by decide +kernel
theorem dX6_init_140 : decode cX6_init 140 = .ok (.iconst 0, 1) := by decide +kernel
theorem dX6_init_141 : decode cX6_init 141 = .ok (.istore_n 3, 1) := by decide +kernel
theorem dX6_init_142 : decode cX6_init 142 = .ok (.iload_n 3, 1) := by decide +kernel
theorem dX6_init_143 : decode cX6_init 143 = .ok (.iconst 4, 1) := by decide +kernel
theorem dX6_init_144 : decode cX6_init 144 = .ok (.if_icmp .ge 18, 3) := by decide +kernel
theorem dX6_init_147 : decode cX6_init 147 = .ok (.aload_n 0, 1) := by decide +kernel
theorem dX6_init_148 : decode cX6_init 148 = .ok (.getfield 43, 3) := by decide +kernel
theorem dX6_init_151 : decode cX6_init 151 = .ok (.iload_n 3, 1) := by decide +kernel
theorem dX6_init_152 : decode cX6_init 152 = .ok (.iconst (-1), 1) := by decide +kernel
theorem dX6_init_153 : decode cX6_init 153 = .ok (.invokevirtual 85, 3) := by decide +kernel
theorem dX6_init_156 : decode cX6_init 156 = .ok (.iinc 3 1, 3) := by decide +kernel
theorem dX6_init_159 : decode cX6_init 159 = .ok (.goto (-17), 3) := by decide +kernel
theorem dX6_init_162 : decode cX6_init 162 = .ok (.return_, 1) := by decide +kernel
theorem dX6_setRoom_0 : decode cX6_setRoom 0 = .ok (.iload_n 1, 1) := by decide +kernel
theorem dX6_setRoom_1 : decode cX6_setRoom 1 = .ok (.iconst 1, 1) := by decide +kernel
theorem dX6_setRoom_2 : decode cX6_setRoom 2 = .ok (.if_icmp .lt 9, 3) := by decide +kernel
theorem dX6_setRoom_5 : decode cX6_setRoom 5 = .ok (.iload_n 1, 1) := by decide +kernel
theorem dX6_setRoom_6 : decode cX6_setRoom 6 = .ok (.bipush 16, 2) := by decide +kernel
theorem dX6_setRoom_8 : decode cX6_setRoom 8 = .ok (.if_icmp .le 13, 3) := by decide +kernel
theorem dX6_setRoom_11 : decode cX6_setRoom 11 = .ok (.new 89, 3) := by decide +kernel
theorem dX6_setRoom_14 : decode cX6_setRoom 14 = .ok (.dup, 1) := by decide +kernel
theorem dX6_setRoom_15 : decode cX6_setRoom 15 = .ok (.ldc 91, 2) := by decide +kernel
theorem dX6_setRoom_17 : decode cX6_setRoom 17 = .ok (.invokespecial 93, 3) := by decide +kernel
theorem dX6_setRoom_20 : decode cX6_setRoom 20 = .ok (.athrow, 1) := by decide +kernel
theorem dX6_setRoom_21 : decode cX6_setRoom 21 = .ok (.aload_n 0, 1) := by decide +kernel
theorem dX6_setRoom_22 : decode cX6_setRoom 22 = .ok (.getfield 7, 3) := by decide +kernel
theorem dX6_setRoom_25 : decode cX6_setRoom 25 = .ok (.istore_n 2, 1) := by decide +kernel
theorem dX6_setRoom_26 : decode cX6_setRoom 26 = .ok (.aload_n 0, 1) := by decide +kernel
theorem dX6_setRoom_27 : decode cX6_setRoom 27 = .ok (.iload_n 1, 1) := by decide +kernel
theorem dX6_setRoom_28 : decode cX6_setRoom 28 = .ok (.putfield 7, 3) := by decide +kernel
theorem dX6_setRoom_31 : decode cX6_setRoom 31 = .ok (.iload_n 2, 1) := by decide +kernel
theorem dX6_setRoom_32 : decode cX6_setRoom 32 = .ok (.ireturn, 1) := by decide +kernel
theorem dX6_setWay_0 : decode cX6_setWay 0 = .ok (.iload_n 1, 1) := by decide +kernel
theorem dX6_setWay_1 : decode cX6_setWay 1 = .ok (.ifCond .lt 8, 3) := by decide +kernel
theorem dX6_setWay_4 : decode cX6_setWay 4 = .ok (.iload_n 1, 1) := by decide +kernel
theorem dX6_setWay_5 : decode cX6_setWay 5 = .ok (.iconst 1, 1) := by decide +kernel
theorem dX6_setWay_6 : decode cX6_setWay 6 = .ok (.if_icmp .le 13, 3) := by decide +kernel
theorem dX6_setWay_9 : decode cX6_setWay 9 = .ok (.new 89, 3) := by decide +kernel
theorem dX6_setWay_12 : decode cX6_setWay 12 = .ok (.dup, 1) := by decide +kernel
theorem dX6_setWay_13 : decode cX6_setWay 13 = .ok (.ldc 96, 2) := by decide +kernel
theorem dX6_setWay_15 : decode cX6_setWay 15 = .ok (.invokespecial 93, 3) := by decide +kernel
theorem dX6_setWay_18 : decode cX6_setWay 18 = .ok (.athrow, 1) := by decide +kernel
theorem dX6_setWay_19 : decode cX6_setWay 19 = .ok (.iload_n 2, 1) := by decide +kernel
theorem dX6_setWay_20 : decode cX6_setWay 20 = .ok (.iconst 2, 1) := by decide +kernel
theorem dX6_setWay_21 : decode cX6_setWay 21 = .ok (.if_icmp .lt 8, 3) := by decide +kernel
theorem dX6_setWay_24 : decode cX6_setWay 24 = .ok (.iload_n 2, 1) := by decide +kernel
theorem dX6_setWay_25 : decode cX6_setWay 25 = .ok (.iconst 4, 1) := by decide +kernel
theorem dX6_setWay_26 : decode cX6_setWay 26 = .ok (.if_icmp .le 13, 3) := by decide +kernel
theorem dX6_setWay_29 : decode cX6_setWay 29 = .ok (.new 89, 3) := by decide +kernel
theorem dX6_setWay_32 : decode cX6_setWay 32 = .ok (.dup, 1) := by decide +kernel
theorem dX6_setWay_33 : decode cX6_setWay 33 = .ok (.ldc 98, 2) := by decide +kernel
theorem dX6_setWay_35 : decode cX6_setWay 35 = .ok (.invokespecial 93, 3) := by decide +kernel
theorem dX6_setWay_38 : decode cX6_setWay 38 = .ok (.athrow, 1) := by decide +kernel
theorem dX6_setWay_39 : decode cX6_setWay 39 = .ok (.iload_n 3, 1) := by decide +kernel
theorem dX6_setWay_40 : decode cX6_setWay 40 = .ok (.iconst 1, 1) := by decide +kernel
theorem dX6_setWay_41 : decode cX6_setWay 41 = .ok (.if_icmp .lt 9, 3) := by decide +kernel
theorem dX6_setWay_44 : decode cX6_setWay 44 = .ok (.iload_n 3, 1) := by decide +kernel
theorem dX6_setWay_45 : decode cX6_setWay 45 = .ok (.bipush 20, 2) := by decide +kernel
theorem dX6_setWay_47 : decode cX6_setWay 47 = .ok (.if_icmp .le 13, 3) := by decide +kernel
theorem dX6_setWay_50 : decode cX6_setWay 50 = .ok (.new 89, 3) := by decide +kernel
theorem dX6_setWay_53 : decode cX6_setWay 53 = .ok (.dup, 1) := by decide +kernel
theorem dX6_setWay_54 : decode cX6_setWay 54 = .ok (.ldc 100, 2) := by decide +kernel
theorem dX6_setWay_56 : decode cX6_setWay 56 = .ok (.invokespecial 93, 3) := by decide +kernel
theorem dX6_setWay_59 : decode cX6_setWay 59 = .ok (.athrow, 1) := by decide +kernel
theorem dX6_setWay_60 : decode cX6_setWay 60 = .ok (.aload_n 0, 1) := by decide +kernel
theorem dX6_setWay_61 : decode cX6_setWay 61 = .ok (.getfield 72, 3) := by decide +kernel
theorem dX6_setWay_64 : decode cX6_setWay 64 = .ok (.invokevirtual 102, 3) := by decide +kernel
theorem dX6_setWay_67 : decode cX6_setWay 67 = .ok (.ifCond .le 13, 3) := by decide +kernel
theorem dX6_setWay_70 : decode cX6_setWay 70 = .ok (.new 106, 3) := by decide +kernel
theorem dX6_setWay_73 : decode cX6_setWay 73 = .ok (.dup, 1) := by decide +kernel
theorem dX6_setWay_74 : decode cX6_setWay 74 = .ok (.ldc 108, 2) := by decide +kernel
theorem dX6_setWay_76 : decode cX6_setWay 76 = .ok (.invokespecial 110, 3) := by decide +kernel
theorem dX6_setWay_79 : decode cX6_setWay 79 = .ok (.athrow, 1) := by decide +kernel
theorem dX6_setWay_80 : decode cX6_setWay 80 = .ok (.aload_n 0, 1) := by decide +kernel
theorem dX6_setWay_81 : decode cX6_setWay 81 = .ok (.getfield 13, 3) := by decide +kernel
theorem dX6_setWay_84 : decode cX6_setWay 84 = .ok (.istore 4, 2) := by decide +kernel
theorem dX6_setWay_86 : decode cX6_setWay 86 = .ok (.aload_n 0, 1) := by decide +kernel
theorem dX6_setWay_87 : decode cX6_setWay 87 = .ok (.iload_n 1, 1) := by decide +kernel
theorem dX6_setWay_88 : decode cX6_setWay 88 = .ok (.putfield 13, 3) := by decide +kernel
theorem dX6_setWay_91 : decode cX6_setWay 91 = .ok (.aload_n 0, 1) := by decide +kernel
theorem dX6_setWay_92 : decode cX6_setWay 92 = .ok (.iload_n 2, 1) := by decide +kernel
theorem dX6_setWay_93 : decode cX6_setWay 93 = .ok (.putfield 16, 3) := by decide +kernel
theorem dX6_setWay_96 : decode cX6_setWay 96 = .ok (.aload_n 0, 1) := by decide +kernel
theorem dX6_setWay_97 : decode cX6_setWay 97 = .ok (.iload_n 3, 1) := by decide +kernel
theorem dX6_setWay_98 : decode cX6_setWay 98 = .ok (.putfield 19, 3) := by decide +kernel
theorem dX6_setWay_101 : decode cX6_setWay 101 = .ok (.iload 4, 2) := by decide +kernel
theorem dX6_setWay_103 : decode cX6_setWay 103 = .ok (.ireturn, 1) := by decide +kernel
theorem dX6_setFilter_0 : decode cX6_setFilter 0 = .ok (.iload_n 1, 1) := by decide +kernel
theorem dX6_setFilter_1 : decode cX6_setFilter 1 = .ok (.ifCond .eq 24, 3) := by decide +kernel
theorem dX6_setFilter_4 : decode cX6_setFilter 4 = .ok (.iload_n 1, 1) := by decide +kernel
theorem dX6_setFilter_5 : decode cX6_setFilter 5 = .ok (.iconst 4, 1) := by decide +kernel
theorem dX6_setFilter_6 : decode cX6_setFilter 6 = .ok (.if_icmp .lt 9, 3) := by decide +kernel
theorem dX6_setFilter_9 : decode cX6_setFilter 9 = .ok (.iload_n 1, 1) := by decide +kernel
theorem dX6_setFilter_10 : decode cX6_setFilter 10 = .ok (.bipush 64, 2) := by decide +kernel
theorem dX6_setFilter_12 : decode cX6_setFilter 12 = .ok (.if_icmp .le 13, 3) := by decide +kernel
theorem dX6_setFilter_15 : decode cX6_setFilter 15 = .ok (.new 89, 3) := by decide +kernel
theorem dX6_setFilter_18 : decode cX6_setFilter 18 = .ok (.dup, 1) := by decide +kernel
theorem dX6_setFilter_19 : decode cX6_setFilter 19 = .ok (.ldc 111, 2) := by decide +kernel
theorem dX6_setFilter_21 : decode cX6_setFilter 21 = .ok (.invokespecial 93, 3) := by decide +kernel
theorem dX6_setFilter_24 : decode cX6_setFilter 24 = .ok (.athrow, 1) := by decide +kernel
theorem dX6_setFilter_25 : decode cX6_setFilter 25 = .ok (.iload_n 2, 1) := by decide +kernel
theorem dX6_setFilter_26 : decode cX6_setFilter 26 = .ok (.iconst 1, 1) := by decide +kernel
theorem dX6_setFilter_27 : decode cX6_setFilter 27 = .ok (.if_icmp .lt 8, 3) := by decide +kernel
theorem dX6_setFilter_30 : decode cX6_setFilter 30 = .ok (.iload_n 2, 1) := by decide +kernel
theorem dX6_setFilter_31 : decode cX6_setFilter 31 = .ok (.iconst 3, 1) := by decide +kernel
theorem dX6_setFilter_32 : decode cX6_setFilter 32 = .ok (.if_icmp .le 13, 3) := by decide +kernel
theorem dX6_setFilter_35 : decode cX6_setFilter 35 = .ok (.new 89, 3) := by decide +kernel
theorem dX6_setFilter_38 : decode cX6_setFilter 38 = .ok (.dup, 1) := by decide +kernel
theorem dX6_setFilter_39 : decode cX6_setFilter 39 = .ok (.ldc 113, 2) := by decide +kernel
theorem dX6_setFilter_41 : decode cX6_setFilter 41 = .ok (.invokespecial 93, 3) := by decide +kernel
theorem dX6_setFilter_44 : decode cX6_setFilter 44 = .ok (.athrow, 1) := by decide +kernel
theorem dX6_setFilter_45 : decode cX6_setFilter 45 = .ok (.aload_n 0, 1) := by decide +kernel
theorem dX6_setFilter_46 : decode cX6_setFilter 46 = .ok (.getfield 22, 3) := by decide +kernel
theorem dX6_setFilter_49 : decode cX6_setFilter 49 = .ok (.istore_n 3, 1) := by decide +kernel
theorem dX6_setFilter_50 : decode cX6_setFilter 50 = .ok (.aload_n 0, 1) := by decide +kernel
theorem dX6_setFilter_51 : decode cX6_setFilter 51 = .ok (.iload_n 1, 1) := by decide +kernel
theorem dX6_setFilter_52 : decode cX6_setFilter 52 = .ok (.putfield 22, 3) := by decide +kernel
theorem dX6_setFilter_55 : decode cX6_setFilter 55 = .ok (.aload_n 0, 1) := by decide +kernel
theorem dX6_setFilter_56 : decode cX6_setFilter 56 = .ok (.iload_n 2, 1) := by decide +kernel
theorem dX6_setFilter_57 : decode cX6_setFilter 57 = .ok (.putfield 25, 3) := by decide +kernel
theorem dX6_setFilter_60 : decode cX6_setFilter 60 = .ok (.iload_n 3, 1) := by decide +kernel
theorem dX6_setFilter_61 : decode cX6_setFilter 61 = .ok (.ireturn, 1) := by decide +kernel
theorem dX6_setEvery_0 : decode cX6_setEvery 0 = .ok (.iload_n 1, 1) := by decide +kernel
theorem dX6_setEvery_1 : decode cX6_setEvery 1 = .ok (.ifCond .lt 9, 3) := by decide +kernel
theorem dX6_setEvery_4 : decode cX6_setEvery 4 = .ok (.iload_n 1, 1) := by decide +kernel
theorem dX6_setEvery_5 : decode cX6_setEvery 5 = .ok (.bipush 20, 2) := by decide +kernel
theorem dX6_setEvery_7 : decode cX6_setEvery 7 = .ok (.if_icmp .le 13, 3) := by decide +kernel
theorem dX6_setEvery_10 : decode cX6_setEvery 10 = .ok (.new 89, 3) := by decide +kernel
theorem dX6_setEvery_13 : decode cX6_setEvery 13 = .ok (.dup, 1) := by decide +kernel
theorem dX6_setEvery_14 : decode cX6_setEvery 14 = .ok (.ldc 115, 2) := by decide +kernel
theorem dX6_setEvery_16 : decode cX6_setEvery 16 = .ok (.invokespecial 93, 3) := by decide +kernel
theorem dX6_setEvery_19 : decode cX6_setEvery 19 = .ok (.athrow, 1) := by decide +kernel
theorem dX6_setEvery_20 : decode cX6_setEvery 20 = .ok (.aload_n 0, 1) := by decide +kernel
theorem dX6_setEvery_21 : decode cX6_setEvery 21 = .ok (.getfield 28, 3) := by decide +kernel
theorem dX6_setEvery_24 : decode cX6_setEvery 24 = .ok (.istore_n 2, 1) := by decide +kernel
theorem dX6_setEvery_25 : decode cX6_setEvery 25 = .ok (.aload_n 0, 1) := by decide +kernel
theorem dX6_setEvery_26 : decode cX6_setEvery 26 = .ok (.iload_n 1, 1) := by decide +kernel
theorem dX6_setEvery_27 : decode cX6_setEvery 27 = .ok (.putfield 28, 3) := by decide +kernel
theorem dX6_setEvery_30 : decode cX6_setEvery 30 = .ok (.iload_n 2, 1) := by decide +kernel
theorem dX6_setEvery_31 : decode cX6_setEvery 31 = .ok (.ireturn, 1) := by decide +kernel
theorem dX6_put_0 : decode cX6_put 0 = .ok (.iload_n 1, 1) := by decide +kernel
theorem dX6_put_1 : decode cX6_put 1 = .ok (.invokestatic 117, 3) := by decide +kernel
theorem dX6_put_4 : decode cX6_put 4 = .ok (.iload_n 2, 1) := by decide +kernel
theorem dX6_put_5 : decode cX6_put 5 = .ok (.ifCond .lt 10, 3) := by decide +kernel
theorem dX6_put_8 : decode cX6_put 8 = .ok (.iload_n 2, 1) := by decide +kernel
theorem dX6_put_9 : decode cX6_put 9 = .ok (.sipush 9999, 3) := by decide +kernel
theorem dX6_put_12 : decode cX6_put 12 = .ok (.if_icmp .le 13, 3) := by decide +kernel
theorem dX6_put_15 : decode cX6_put 15 = .ok (.new 89, 3) := by decide +kernel
theorem dX6_put_18 : decode cX6_put 18 = .ok (.dup, 1) := by decide +kernel
theorem dX6_put_19 : decode cX6_put 19 = .ok (.ldc 120, 2) := by decide +kernel
theorem dX6_put_21 : decode cX6_put 21 = .ok (.invokespecial 93, 3) := by decide +kernel
theorem dX6_put_24 : decode cX6_put 24 = .ok (.athrow, 1) := by decide +kernel
theorem dX6_put_25 : decode cX6_put 25 = .ok (.aload_n 0, 1) := by decide +kernel
theorem dX6_put_26 : decode cX6_put 26 = .ok (.iload_n 1, 1) := by decide +kernel
theorem dX6_put_27 : decode cX6_put 27 = .ok (.iload_n 2, 1) := by decide +kernel
theorem dX6_put_28 : decode cX6_put 28 = .ok (.invokevirtual 122, 3) := by decide +kernel
theorem dX6_put_31 : decode cX6_put 31 = .ok (.istore_n 3, 1) := by decide +kernel
theorem dX6_put_32 : decode cX6_put 32 = .ok (.aload_n 0, 1) := by decide +kernel
theorem dX6_put_33 : decode cX6_put 33 = .ok (.invokevirtual 125, 3) := by decide +kernel
theorem dX6_put_36 : decode cX6_put 36 = .ok (.iload_n 3, 1) := by decide +kernel
theorem dX6_put_37 : decode cX6_put 37 = .ok (.ireturn, 1) := by decide +kernel
theorem dX6_remove_0 : decode cX6_remove 0 = .ok (.iload_n 1, 1) := by decide +kernel
theorem dX6_remove_1 : decode cX6_remove 1 = .ok (.invokestatic 117, 3) := by decide +kernel
theorem dX6_remove_4 : decode cX6_remove 4 = .ok (.aload_n 0, 1) := by decide +kernel
theorem dX6_remove_5 : decode cX6_remove 5 = .ok (.iload_n 1, 1) := by decide +kernel
theorem dX6_remove_6 : decode cX6_remove 6 = .ok (.iconst (-1), 1) := by decide +kernel
theorem dX6_remove_7 : decode cX6_remove 7 = .ok (.invokevirtual 122, 3) := by decide +kernel
theorem dX6_remove_10 : decode cX6_remove 10 = .ok (.istore_n 2, 1) := by decide +kernel
theorem dX6_remove_11 : decode cX6_remove 11 = .ok (.aload_n 0, 1) := by decide +kernel
theorem dX6_remove_12 : decode cX6_remove 12 = .ok (.invokevirtual 125, 3) := by decide +kernel
theorem dX6_remove_15 : decode cX6_remove 15 = .ok (.iload_n 2, 1) := by decide +kernel
theorem dX6_remove_16 : decode cX6_remove 16 = .ok (.ireturn, 1) := by decide +kernel
theorem dX6_flush_0 : decode cX6_flush 0 = .ok (.aload_n 0, 1) := by decide +kernel
theorem dX6_flush_1 : decode cX6_flush 1 = .ok (.getfield 49, 3) := by decide +kernel
theorem dX6_flush_4 : decode cX6_flush 4 = .ok (.getfield 134, 3) := by decide +kernel
theorem dX6_flush_7 : decode cX6_flush 7 = .ok (.invokevirtual 137, 3) := by decide +kernel
theorem dX6_flush_10 : decode cX6_flush 10 = .ok (.istore_n 1, 1) := by decide +kernel
theorem dX6_flush_11 : decode cX6_flush 11 = .ok (.aload_n 0, 1) := by decide +kernel
theorem dX6_flush_12 : decode cX6_flush 12 = .ok (.invokevirtual 140, 3) := by decide +kernel
theorem dX6_flush_15 : decode cX6_flush 15 = .ok (.aload_n 0, 1) := by decide +kernel
theorem dX6_flush_16 : decode cX6_flush 16 = .ok (.invokevirtual 125, 3) := by decide +kernel
theorem dX6_flush_19 : decode cX6_flush 19 = .ok (.iload_n 1, 1) := by decide +kernel
theorem dX6_flush_20 : decode cX6_flush 20 = .ok (.ireturn, 1) := by decide +kernel
theorem dX6_pack_0 : decode cX6_pack 0 = .ok (.iload_n 1, 1) := by decide +kernel
theorem dX6_pack_1 : decode cX6_pack 1 = .ok (.invokestatic 143, 3) := by decide +kernel
theorem dX6_pack_4 : decode cX6_pack 4 = .ok (.aload_n 0, 1) := by decide +kernel
theorem dX6_pack_5 : decode cX6_pack 5 = .ok (.iload_n 1, 1) := by decide +kernel
theorem dX6_pack_6 : decode cX6_pack 6 = .ok (.invokevirtual 146, 3) := by decide +kernel
theorem dX6_pack_9 : decode cX6_pack 9 = .ok (.istore_n 2, 1) := by decide +kernel
theorem dX6_pack_10 : decode cX6_pack 10 = .ok (.aload_n 0, 1) := by decide +kernel
theorem dX6_pack_11 : decode cX6_pack 11 = .ok (.iload_n 1, 1) := by decide +kernel
theorem dX6_pack_12 : decode cX6_pack 12 = .ok (.invokevirtual 150, 3) := by decide +kernel
theorem dX6_pack_15 : decode cX6_pack 15 = .ok (.istore_n 3, 1) := by decide +kernel
theorem dX6_pack_16 : decode cX6_pack 16 = .ok (.aload_n 0, 1) := by decide +kernel
theorem dX6_pack_17 : decode cX6_pack 17 = .ok (.getfield 72, 3) := by decide +kernel
theorem dX6_pack_20 : decode cX6_pack 20 = .ok (.iload_n 3, 1) := by decide +kernel
theorem dX6_pack_21 : decode cX6_pack 21 = .ok (.invokevirtual 153, 3) := by decide +kernel
theorem dX6_pack_24 : decode cX6_pack 24 = .ok (.aload_n 0, 1) := by decide +kernel
theorem dX6_pack_25 : decode cX6_pack 25 = .ok (.getfield 72, 3) := by decide +kernel
theorem dX6_pack_28 : decode cX6_pack 28 = .ok (.invokevirtual 102, 3) := by decide +kernel
theorem dX6_pack_31 : decode cX6_pack 31 = .ok (.if_icmp .ne 5, 3) := by decide +kernel
theorem dX6_pack_34 : decode cX6_pack 34 = .ok (.iconst 0, 1) := by decide +kernel
theorem dX6_pack_35 : decode cX6_pack 35 = .ok (.ireturn, 1) := by decide +kernel
theorem dX6_pack_36 : decode cX6_pack 36 = .ok (.iload_n 3, 1) := by decide +kernel
theorem dX6_pack_37 : decode cX6_pack 37 = .ok (.istore 4, 2) := by decide +kernel
theorem dX6_pack_39 : decode cX6_pack 39 = .ok (.iload 4, 2) := by decide +kernel
theorem dX6_pack_41 : decode cX6_pack 41 = .ok (.iconst 4, 1) := by decide +kernel
theorem dX6_pack_42 : decode cX6_pack 42 = .ok (.if_icmp .ge 28, 3) := by decide +kernel
theorem dX6_pack_45 : decode cX6_pack 45 = .ok (.aload_n 0, 1) := by decide +kernel
theorem dX6_pack_46 : decode cX6_pack 46 = .ok (.getfield 72, 3) := by decide +kernel
theorem dX6_pack_49 : decode cX6_pack 49 = .ok (.iload 4, 2) := by decide +kernel
theorem dX6_pack_51 : decode cX6_pack 51 = .ok (.iconst 0, 1) := by decide +kernel
theorem dX6_pack_52 : decode cX6_pack 52 = .ok (.aload_n 0, 1) := by decide +kernel
theorem dX6_pack_53 : decode cX6_pack 53 = .ok (.getfield 72, 3) := by decide +kernel
theorem dX6_pack_56 : decode cX6_pack 56 = .ok (.iload 4, 2) := by decide +kernel
theorem dX6_pack_58 : decode cX6_pack 58 = .ok (.invokevirtual 156, 3) := by decide +kernel
theorem dX6_pack_61 : decode cX6_pack 61 = .ok (.invokevirtual 159, 3) := by decide +kernel
theorem dX6_pack_64 : decode cX6_pack 64 = .ok (.iinc 4 1, 3) := by decide +kernel
theorem dX6_pack_67 : decode cX6_pack 67 = .ok (.goto (-28), 3) := by decide +kernel
theorem dX6_pack_70 : decode cX6_pack 70 = .ok (.aload_n 0, 1) := by decide +kernel
theorem dX6_pack_71 : decode cX6_pack 71 = .ok (.getfield 36, 3) := by decide +kernel
theorem dX6_pack_74 : decode cX6_pack 74 = .ok (.iconst 4, 1) := by decide +kernel
theorem dX6_pack_75 : decode cX6_pack 75 = .ok (.iconst 1, 1) := by decide +kernel
theorem dX6_pack_76 : decode cX6_pack 76 = .ok (.invokevirtual 163, 3) := by decide +kernel
theorem dX6_pack_79 : decode cX6_pack 79 = .ok (.aload_n 0, 1) := by decide +kernel
theorem dX6_pack_80 : decode cX6_pack 80 = .ok (.iconst 3, 1) := by decide +kernel
theorem dX6_pack_81 : decode cX6_pack 81 = .ok (.iconst 0, 1) := by decide +kernel
theorem dX6_pack_82 : decode cX6_pack 82 = .ok (.invokevirtual 166, 3) := by decide +kernel
theorem dX6_pack_85 : decode cX6_pack 85 = .ok (.iload_n 2, 1) := by decide +kernel
theorem dX6_pack_86 : decode cX6_pack 86 = .ok (.ireturn, 1) := by decide +kernel
theorem dX6_crash_0 : decode cX6_crash 0 = .ok (.aload_n 0, 1) := by decide +kernel
theorem dX6_crash_1 : decode cX6_crash 1 = .ok (.getfield 49, 3) := by decide +kernel
theorem dX6_crash_4 : decode cX6_crash 4 = .ok (.invokevirtual 128, 3) := by decide +kernel
theorem dX6_crash_7 : decode cX6_crash 7 = .ok (.istore_n 1, 1) := by decide +kernel
theorem dX6_crash_8 : decode cX6_crash 8 = .ok (.aload_n 0, 1) := by decide +kernel
theorem dX6_crash_9 : decode cX6_crash 9 = .ok (.getfield 49, 3) := by decide +kernel
theorem dX6_crash_12 : decode cX6_crash 12 = .ok (.invokevirtual 169, 3) := by decide +kernel
theorem dX6_crash_15 : decode cX6_crash 15 = .ok (.aload_n 0, 1) := by decide +kernel
theorem dX6_crash_16 : decode cX6_crash 16 = .ok (.getfield 63, 3) := by decide +kernel
theorem dX6_crash_19 : decode cX6_crash 19 = .ok (.invokevirtual 172, 3) := by decide +kernel
theorem dX6_crash_22 : decode cX6_crash 22 = .ok (.aload_n 0, 1) := by decide +kernel
theorem dX6_crash_23 : decode cX6_crash 23 = .ok (.invokevirtual 175, 3) := by decide +kernel
theorem dX6_crash_26 : decode cX6_crash 26 = .ok (.iload_n 1, 1) := by decide +kernel
theorem dX6_crash_27 : decode cX6_crash 27 = .ok (.ireturn, 1) := by decide +kernel
theorem dX6_snap_0 : decode cX6_snap 0 = .ok (.aload_n 0, 1) := by decide +kernel
theorem dX6_snap_1 : decode cX6_snap 1 = .ok (.getfield 63, 3) := by decide +kernel
theorem dX6_snap_4 : decode cX6_snap 4 = .ok (.invokevirtual 178, 3) := by decide +kernel
theorem dX6_snap_7 : decode cX6_snap 7 = .ok (.iconst 4, 1) := by decide +kernel
theorem dX6_snap_8 : decode cX6_snap 8 = .ok (.if_icmp .lt 13, 3) := by decide +kernel
theorem dX6_snap_11 : decode cX6_snap 11 = .ok (.new 106, 3) := by decide +kernel
theorem dX6_snap_14 : decode cX6_snap 14 = .ok (.dup, 1) := by decide +kernel
theorem dX6_snap_15 : decode cX6_snap 15 = .ok (.ldc 181, 2) := by decide +kernel
theorem dX6_snap_17 : decode cX6_snap 17 = .ok (.invokespecial 110, 3) := by decide +kernel
theorem dX6_snap_20 : decode cX6_snap 20 = .ok (.athrow, 1) := by decide +kernel
theorem dX6_snap_21 : decode cX6_snap 21 = .ok (.aload_n 0, 1) := by decide +kernel
theorem dX6_snap_22 : decode cX6_snap 22 = .ok (.getfield 63, 3) := by decide +kernel
theorem dX6_snap_25 : decode cX6_snap 25 = .ok (.aload_n 0, 1) := by decide +kernel
theorem dX6_snap_26 : decode cX6_snap 26 = .ok (.getfield 59, 3) := by decide +kernel
theorem dX6_snap_29 : decode cX6_snap 29 = .ok (.invokevirtual 183, 3) := by decide +kernel
theorem dX6_snap_32 : decode cX6_snap 32 = .ok (.invokevirtual 186, 3) := by decide +kernel
theorem dX6_snap_35 : decode cX6_snap 35 = .ok (.ireturn, 1) := by decide +kernel
theorem dX6_release_0 : decode cX6_release 0 = .ok (.aload_n 0, 1) := by decide +kernel
theorem dX6_release_1 : decode cX6_release 1 = .ok (.getfield 63, 3) := by decide +kernel
theorem dX6_release_4 : decode cX6_release 4 = .ok (.aload_n 0, 1) := by decide +kernel
theorem dX6_release_5 : decode cX6_release 5 = .ok (.iload_n 1, 1) := by decide +kernel
theorem dX6_release_6 : decode cX6_release 6 = .ok (.invokevirtual 189, 3) := by decide +kernel
theorem dX6_release_9 : decode cX6_release 9 = .ok (.invokevirtual 192, 3) := by decide +kernel
theorem dX6_release_12 : decode cX6_release 12 = .ok (.aload_n 0, 1) := by decide +kernel
theorem dX6_release_13 : decode cX6_release 13 = .ok (.invokevirtual 175, 3) := by decide +kernel
theorem dX6_release_16 : decode cX6_release 16 = .ok (.aload_n 0, 1) := by decide +kernel
theorem dX6_release_17 : decode cX6_release 17 = .ok (.getfield 63, 3) := by decide +kernel
theorem dX6_release_20 : decode cX6_release 20 = .ok (.invokevirtual 178, 3) := by decide +kernel
theorem dX6_release_23 : decode cX6_release 23 = .ok (.ireturn, 1) := by decide +kernel
theorem dX6_get_0 : decode cX6_get 0 = .ok (.iload_n 1, 1) := by decide +kernel
theorem dX6_get_1 : decode cX6_get 1 = .ok (.invokestatic 117, 3) := by decide +kernel
theorem dX6_get_4 : decode cX6_get 4 = .ok (.aload_n 0, 1) := by decide +kernel
theorem dX6_get_5 : decode cX6_get 5 = .ok (.aload_n 0, 1) := by decide +kernel
theorem dX6_get_6 : decode cX6_get 6 = .ok (.iload_n 1, 1) := by decide +kernel
theorem dX6_get_7 : decode cX6_get 7 = .ok (.aload_n 0, 1) := by decide +kernel
theorem dX6_get_8 : decode cX6_get 8 = .ok (.getfield 59, 3) := by decide +kernel
theorem dX6_get_11 : decode cX6_get 11 = .ok (.invokevirtual 183, 3) := by decide +kernel
theorem dX6_get_14 : decode cX6_get 14 = .ok (.aload_n 0, 1) := by decide +kernel
theorem dX6_get_15 : decode cX6_get 15 = .ok (.getfield 36, 3) := by decide +kernel
theorem dX6_get_18 : decode cX6_get 18 = .ok (.invokevirtual 195, 3) := by decide +kernel
theorem dX6_get_21 : decode cX6_get 21 = .ok (.invokevirtual 199, 3) := by decide +kernel
theorem dX6_get_24 : decode cX6_get 24 = .ok (.ireturn, 1) := by decide +kernel
theorem dX6_getAt_0 : decode cX6_getAt 0 = .ok (.aload_n 0, 1) := by decide +kernel
theorem dX6_getAt_1 : decode cX6_getAt 1 = .ok (.iload_n 1, 1) := by decide +kernel
theorem dX6_getAt_2 : decode cX6_getAt 2 = .ok (.invokevirtual 189, 3) := by decide +kernel
theorem dX6_getAt_5 : decode cX6_getAt 5 = .ok (.istore_n 3, 1) := by decide +kernel
theorem dX6_getAt_6 : decode cX6_getAt 6 = .ok (.iload_n 2, 1) := by decide +kernel
theorem dX6_getAt_7 : decode cX6_getAt 7 = .ok (.invokestatic 117, 3) := by decide +kernel
theorem dX6_getAt_10 : decode cX6_getAt 10 = .ok (.aload_n 0, 1) := by decide +kernel
theorem dX6_getAt_11 : decode cX6_getAt 11 = .ok (.aload_n 0, 1) := by decide +kernel
theorem dX6_getAt_12 : decode cX6_getAt 12 = .ok (.iload_n 2, 1) := by decide +kernel
theorem dX6_getAt_13 : decode cX6_getAt 13 = .ok (.aload_n 0, 1) := by decide +kernel
theorem dX6_getAt_14 : decode cX6_getAt 14 = .ok (.getfield 63, 3) := by decide +kernel
theorem dX6_getAt_17 : decode cX6_getAt 17 = .ok (.iload_n 3, 1) := by decide +kernel
theorem dX6_getAt_18 : decode cX6_getAt 18 = .ok (.invokevirtual 202, 3) := by decide +kernel
theorem dX6_getAt_21 : decode cX6_getAt 21 = .ok (.aload_n 0, 1) := by decide +kernel
theorem dX6_getAt_22 : decode cX6_getAt 22 = .ok (.getfield 36, 3) := by decide +kernel
theorem dX6_getAt_25 : decode cX6_getAt 25 = .ok (.invokevirtual 195, 3) := by decide +kernel
theorem dX6_getAt_28 : decode cX6_getAt 28 = .ok (.invokevirtual 199, 3) := by decide +kernel
theorem dX6_getAt_31 : decode cX6_getAt 31 = .ok (.ireturn, 1) := by decide +kernel
theorem dX6_next_0 : decode cX6_next 0 = .ok (.iload_n 1, 1) := by decide +kernel
theorem dX6_next_1 : decode cX6_next 1 = .ok (.iconst (-1), 1) := by decide +kernel
theorem dX6_next_2 : decode cX6_next 2 = .ok (.if_icmp .lt 10, 3) := by decide +kernel
theorem dX6_next_5 : decode cX6_next 5 = .ok (.iload_n 1, 1) := by decide +kernel
theorem dX6_next_6 : decode cX6_next 6 = .ok (.sipush 9999, 3) := by decide +kernel
theorem dX6_next_9 : decode cX6_next 9 = .ok (.if_icmp .le 13, 3) := by decide +kernel
theorem dX6_next_12 : decode cX6_next 12 = .ok (.new 89, 3) := by decide +kernel
theorem dX6_next_15 : decode cX6_next 15 = .ok (.dup, 1) := by decide +kernel
theorem dX6_next_16 : decode cX6_next 16 = .ok (.ldc 205, 2) := by decide +kernel
theorem dX6_next_18 : decode cX6_next 18 = .ok (.invokespecial 93, 3) := by decide +kernel
theorem dX6_next_21 : decode cX6_next 21 = .ok (.athrow, 1) := by decide +kernel
theorem dX6_next_22 : decode cX6_next 22 = .ok (.aload_n 0, 1) := by decide +kernel
theorem dX6_next_23 : decode cX6_next 23 = .ok (.aload_n 0, 1) := by decide +kernel
theorem dX6_next_24 : decode cX6_next 24 = .ok (.getfield 59, 3) := by decide +kernel
theorem dX6_next_27 : decode cX6_next 27 = .ok (.invokevirtual 183, 3) := by decide +kernel
theorem dX6_next_30 : decode cX6_next 30 = .ok (.invokevirtual 207, 3) := by decide +kernel
theorem dX6_next_33 : decode cX6_next 33 = .ok (.astore_n 2, 1) := by decide +kernel
theorem dX6_next_34 : decode cX6_next 34 = .ok (.iconst 0, 1) := by decide +kernel
theorem dX6_next_35 : decode cX6_next 35 = .ok (.istore_n 3, 1) := by decide +kernel
theorem dX6_next_36 : decode cX6_next 36 = .ok (.iload_n 3, 1) := by decide +kernel
theorem dX6_next_37 : decode cX6_next 37 = .ok (.aload_n 2, 1) := by decide +kernel
theorem dX6_next_38 : decode cX6_next 38 = .ok (.invokevirtual 137, 3) := by decide +kernel
theorem dX6_next_41 : decode cX6_next 41 = .ok (.if_icmp .ge 32, 3) := by decide +kernel
theorem dX6_next_44 : decode cX6_next 44 = .ok (.aload_n 0, 1) := by decide +kernel
theorem dX6_next_45 : decode cX6_next 45 = .ok (.getfield 59, 3) := by decide +kernel
theorem dX6_next_48 : decode cX6_next 48 = .ok (.aload_n 2, 1) := by decide +kernel
theorem dX6_next_49 : decode cX6_next 49 = .ok (.iload_n 3, 1) := by decide +kernel
theorem dX6_next_50 : decode cX6_next 50 = .ok (.invokevirtual 211, 3) := by decide +kernel
theorem dX6_next_53 : decode cX6_next 53 = .ok (.invokevirtual 214, 3) := by decide +kernel
theorem dX6_next_56 : decode cX6_next 56 = .ok (.istore 4, 2) := by decide +kernel
theorem dX6_next_58 : decode cX6_next 58 = .ok (.iload 4, 2) := by decide +kernel
theorem dX6_next_60 : decode cX6_next 60 = .ok (.iload_n 1, 1) := by decide +kernel
theorem dX6_next_61 : decode cX6_next 61 = .ok (.if_icmp .le 6, 3) := by decide +kernel
theorem dX6_next_64 : decode cX6_next 64 = .ok (.iload 4, 2) := by decide +kernel
theorem dX6_next_66 : decode cX6_next 66 = .ok (.ireturn, 1) := by decide +kernel
theorem dX6_next_67 : decode cX6_next 67 = .ok (.iinc 3 1, 3) := by decide +kernel
theorem dX6_next_70 : decode cX6_next 70 = .ok (.goto (-34), 3) := by decide +kernel
theorem dX6_next_73 : decode cX6_next 73 = .ok (.iconst (-1), 1) := by decide +kernel
theorem dX6_next_74 : decode cX6_next 74 = .ok (.ireturn, 1) := by decide +kernel
theorem dX6_sum_0 : decode cX6_sum 0 = .ok (.iload_n 1, 1) := by decide +kernel
theorem dX6_sum_1 : decode cX6_sum 1 = .ok (.iload_n 2, 1) := by decide +kernel
theorem dX6_sum_2 : decode cX6_sum 2 = .ok (.invokestatic 217, 3) := by decide +kernel
theorem dX6_sum_5 : decode cX6_sum 5 = .ok (.aload_n 0, 1) := by decide +kernel
theorem dX6_sum_6 : decode cX6_sum 6 = .ok (.aload_n 0, 1) := by decide +kernel
theorem dX6_sum_7 : decode cX6_sum 7 = .ok (.getfield 59, 3) := by decide +kernel
theorem dX6_sum_10 : decode cX6_sum 10 = .ok (.invokevirtual 183, 3) := by decide +kernel
theorem dX6_sum_13 : decode cX6_sum 13 = .ok (.invokevirtual 207, 3) := by decide +kernel
theorem dX6_sum_16 : decode cX6_sum 16 = .ok (.astore_n 3, 1) := by decide +kernel
theorem dX6_sum_17 : decode cX6_sum 17 = .ok (.iconst 0, 1) := by decide +kernel
theorem dX6_sum_18 : decode cX6_sum 18 = .ok (.istore 4, 2) := by decide +kernel
theorem dX6_sum_20 : decode cX6_sum 20 = .ok (.iconst 0, 1) := by decide +kernel
theorem dX6_sum_21 : decode cX6_sum 21 = .ok (.istore 5, 2) := by decide +kernel
theorem dX6_sum_23 : decode cX6_sum 23 = .ok (.iload 5, 2) := by decide +kernel
theorem dX6_sum_25 : decode cX6_sum 25 = .ok (.aload_n 3, 1) := by decide +kernel
theorem dX6_sum_26 : decode cX6_sum 26 = .ok (.invokevirtual 137, 3) := by decide +kernel
theorem dX6_sum_29 : decode cX6_sum 29 = .ok (.if_icmp .ge 54, 3) := by decide +kernel
theorem dX6_sum_32 : decode cX6_sum 32 = .ok (.aload_n 0, 1) := by decide +kernel
theorem dX6_sum_33 : decode cX6_sum 33 = .ok (.getfield 59, 3) := by decide +kernel
theorem dX6_sum_36 : decode cX6_sum 36 = .ok (.aload_n 3, 1) := by decide +kernel
theorem dX6_sum_37 : decode cX6_sum 37 = .ok (.iload 5, 2) := by decide +kernel
theorem dX6_sum_39 : decode cX6_sum 39 = .ok (.invokevirtual 211, 3) := by decide +kernel
theorem dX6_sum_42 : decode cX6_sum 42 = .ok (.invokevirtual 214, 3) := by decide +kernel
theorem dX6_sum_45 : decode cX6_sum 45 = .ok (.istore 6, 2) := by decide +kernel
theorem dX6_sum_47 : decode cX6_sum 47 = .ok (.iload 6, 2) := by decide +kernel
theorem dX6_sum_49 : decode cX6_sum 49 = .ok (.iload_n 1, 1) := by decide +kernel
theorem dX6_sum_50 : decode cX6_sum 50 = .ok (.if_icmp .lt 27, 3) := by decide +kernel
theorem dX6_sum_53 : decode cX6_sum 53 = .ok (.iload 6, 2) := by decide +kernel
theorem dX6_sum_55 : decode cX6_sum 55 = .ok (.iload_n 2, 1) := by decide +kernel
theorem dX6_sum_56 : decode cX6_sum 56 = .ok (.if_icmp .gt 21, 3) := by decide +kernel
theorem dX6_sum_59 : decode cX6_sum 59 = .ok (.iload 4, 2) := by decide +kernel
theorem dX6_sum_61 : decode cX6_sum 61 = .ok (.aload_n 0, 1) := by decide +kernel
theorem dX6_sum_62 : decode cX6_sum 62 = .ok (.getfield 59, 3) := by decide +kernel
theorem dX6_sum_65 : decode cX6_sum 65 = .ok (.aload_n 3, 1) := by decide +kernel
theorem dX6_sum_66 : decode cX6_sum 66 = .ok (.iload 5, 2) := by decide +kernel
theorem dX6_sum_68 : decode cX6_sum 68 = .ok (.invokevirtual 211, 3) := by decide +kernel
theorem dX6_sum_71 : decode cX6_sum 71 = .ok (.invokevirtual 220, 3) := by decide +kernel
theorem dX6_sum_74 : decode cX6_sum 74 = .ok (.iadd, 1) := by decide +kernel
theorem dX6_sum_75 : decode cX6_sum 75 = .ok (.istore 4, 2) := by decide +kernel
theorem dX6_sum_77 : decode cX6_sum 77 = .ok (.iinc 5 1, 3) := by decide +kernel
theorem dX6_sum_80 : decode cX6_sum 80 = .ok (.goto (-57), 3) := by decide +kernel
theorem dX6_sum_83 : decode cX6_sum 83 = .ok (.iload 4, 2) := by decide +kernel
theorem dX6_sum_85 : decode cX6_sum 85 = .ok (.ireturn, 1) := by decide +kernel
theorem dX6_keys_0 : decode cX6_keys 0 = .ok (.aload_n 0, 1) := by decide +kernel
theorem dX6_keys_1 : decode cX6_keys 1 = .ok (.aload_n 0, 1) := by decide +kernel
theorem dX6_keys_2 : decode cX6_keys 2 = .ok (.getfield 59, 3) := by decide +kernel
theorem dX6_keys_5 : decode cX6_keys 5 = .ok (.invokevirtual 183, 3) := by decide +kernel
theorem dX6_keys_8 : decode cX6_keys 8 = .ok (.invokevirtual 207, 3) := by decide +kernel
theorem dX6_keys_11 : decode cX6_keys 11 = .ok (.invokevirtual 137, 3) := by decide +kernel
theorem dX6_keys_14 : decode cX6_keys 14 = .ok (.ireturn, 1) := by decide +kernel
theorem dX6_hand_0 : decode cX6_hand 0 = .ok (.aload_n 0, 1) := by decide +kernel
theorem dX6_hand_1 : decode cX6_hand 1 = .ok (.getfield 49, 3) := by decide +kernel
theorem dX6_hand_4 : decode cX6_hand 4 = .ok (.getfield 134, 3) := by decide +kernel
theorem dX6_hand_7 : decode cX6_hand 7 = .ok (.invokevirtual 137, 3) := by decide +kernel
theorem dX6_hand_10 : decode cX6_hand 10 = .ok (.ireturn, 1) := by decide +kernel
theorem dX6_log_0 : decode cX6_log 0 = .ok (.aload_n 0, 1) := by decide +kernel
theorem dX6_log_1 : decode cX6_log 1 = .ok (.getfield 49, 3) := by decide +kernel
theorem dX6_log_4 : decode cX6_log 4 = .ok (.getfield 223, 3) := by decide +kernel
theorem dX6_log_7 : decode cX6_log 7 = .ok (.invokevirtual 137, 3) := by decide +kernel
theorem dX6_log_10 : decode cX6_log 10 = .ok (.ireturn, 1) := by decide +kernel
theorem dX6_unsafe_0 : decode cX6_unsafe 0 = .ok (.aload_n 0, 1) := by decide +kernel
theorem dX6_unsafe_1 : decode cX6_unsafe 1 = .ok (.getfield 49, 3) := by decide +kernel
theorem dX6_unsafe_4 : decode cX6_unsafe 4 = .ok (.invokevirtual 128, 3) := by decide +kernel
theorem dX6_unsafe_7 : decode cX6_unsafe 7 = .ok (.ireturn, 1) := by decide +kernel
theorem dX6_snapshots_0 : decode cX6_snapshots 0 = .ok (.aload_n 0, 1) := by decide +kernel
theorem dX6_snapshots_1 : decode cX6_snapshots 1 = .ok (.getfield 63, 3) := by decide +kernel
theorem dX6_snapshots_4 : decode cX6_snapshots 4 = .ok (.invokevirtual 178, 3) := by decide +kernel
theorem dX6_snapshots_7 : decode cX6_snapshots 7 = .ok (.ireturn, 1) := by decide +kernel
theorem dX6_runs_0 : decode cX6_runs 0 = .ok (.iload_n 1, 1) := by decide +kernel
theorem dX6_runs_1 : decode cX6_runs 1 = .ok (.invokestatic 143, 3) := by decide +kernel
theorem dX6_runs_4 : decode cX6_runs 4 = .ok (.aload_n 0, 1) := by decide +kernel
theorem dX6_runs_5 : decode cX6_runs 5 = .ok (.getfield 72, 3) := by decide +kernel
theorem dX6_runs_8 : decode cX6_runs 8 = .ok (.iload_n 1, 1) := by decide +kernel
theorem dX6_runs_9 : decode cX6_runs 9 = .ok (.invokevirtual 156, 3) := by decide +kernel
theorem dX6_runs_12 : decode cX6_runs 12 = .ok (.ireturn, 1) := by decide +kernel
theorem dX6_size_0 : decode cX6_size 0 = .ok (.aload_n 0, 1) := by decide +kernel
theorem dX6_size_1 : decode cX6_size 1 = .ok (.getfield 72, 3) := by decide +kernel
theorem dX6_size_4 : decode cX6_size 4 = .ok (.aload_n 0, 1) := by decide +kernel
theorem dX6_size_5 : decode cX6_size 5 = .ok (.iload_n 1, 1) := by decide +kernel
theorem dX6_size_6 : decode cX6_size 6 = .ok (.iload_n 2, 1) := by decide +kernel
theorem dX6_size_7 : decode cX6_size 7 = .ok (.invokevirtual 226, 3) := by decide +kernel
theorem dX6_size_10 : decode cX6_size 10 = .ok (.invokevirtual 229, 3) := by decide +kernel
theorem dX6_size_13 : decode cX6_size 13 = .ok (.ireturn, 1) := by decide +kernel
theorem dX6_entry_0 : decode cX6_entry 0 = .ok (.aload_n 0, 1) := by decide +kernel
theorem dX6_entry_1 : decode cX6_entry 1 = .ok (.iload_n 1, 1) := by decide +kernel
theorem dX6_entry_2 : decode cX6_entry 2 = .ok (.iload_n 2, 1) := by decide +kernel
theorem dX6_entry_3 : decode cX6_entry 3 = .ok (.invokevirtual 226, 3) := by decide +kernel
theorem dX6_entry_6 : decode cX6_entry 6 = .ok (.istore 5, 2) := by decide +kernel
theorem dX6_entry_8 : decode cX6_entry 8 = .ok (.iload_n 3, 1) := by decide +kernel
theorem dX6_entry_9 : decode cX6_entry 9 = .ok (.ifCond .lt 16, 3) := by decide +kernel
theorem dX6_entry_12 : decode cX6_entry 12 = .ok (.iload_n 3, 1) := by decide +kernel
theorem dX6_entry_13 : decode cX6_entry 13 = .ok (.aload_n 0, 1) := by decide +kernel
theorem dX6_entry_14 : decode cX6_entry 14 = .ok (.getfield 72, 3) := by decide +kernel
theorem dX6_entry_17 : decode cX6_entry 17 = .ok (.iload 5, 2) := by decide +kernel
theorem dX6_entry_19 : decode cX6_entry 19 = .ok (.invokevirtual 229, 3) := by decide +kernel
theorem dX6_entry_22 : decode cX6_entry 22 = .ok (.if_icmp .lt 13, 3) := by decide +kernel
theorem dX6_entry_25 : decode cX6_entry 25 = .ok (.new 231, 3) := by decide +kernel
theorem dX6_entry_28 : decode cX6_entry 28 = .ok (.dup, 1) := by decide +kernel
theorem dX6_entry_29 : decode cX6_entry 29 = .ok (.ldc 233, 2) := by decide +kernel
theorem dX6_entry_31 : decode cX6_entry 31 = .ok (.invokespecial 235, 3) := by decide +kernel
theorem dX6_entry_34 : decode cX6_entry 34 = .ok (.athrow, 1) := by decide +kernel
theorem dX6_entry_35 : decode cX6_entry 35 = .ok (.iload 4, 2) := by decide +kernel
theorem dX6_entry_37 : decode cX6_entry 37 = .ok (.ifCond .lt 9, 3) := by decide +kernel
theorem dX6_entry_40 : decode cX6_entry 40 = .ok (.iload 4, 2) := by decide +kernel
theorem dX6_entry_42 : decode cX6_entry 42 = .ok (.iconst 2, 1) := by decide +kernel
theorem dX6_entry_43 : decode cX6_entry 43 = .ok (.if_icmp .le 13, 3) := by decide +kernel
theorem dX6_entry_46 : decode cX6_entry 46 = .ok (.new 89, 3) := by decide +kernel
theorem dX6_entry_49 : decode cX6_entry 49 = .ok (.dup, 1) := by decide +kernel
theorem dX6_entry_50 : decode cX6_entry 50 = .ok (.ldc 236, 2) := by decide +kernel
theorem dX6_entry_52 : decode cX6_entry 52 = .ok (.invokespecial 93, 3) := by decide +kernel
theorem dX6_entry_55 : decode cX6_entry 55 = .ok (.athrow, 1) := by decide +kernel
theorem dX6_entry_56 : decode cX6_entry 56 = .ok (.aload_n 0, 1) := by decide +kernel
theorem dX6_entry_57 : decode cX6_entry 57 = .ok (.getfield 72, 3) := by decide +kernel
theorem dX6_entry_60 : decode cX6_entry 60 = .ok (.iload 5, 2) := by decide +kernel
theorem dX6_entry_62 : decode cX6_entry 62 = .ok (.iload_n 3, 1) := by decide +kernel
theorem dX6_entry_63 : decode cX6_entry 63 = .ok (.invokevirtual 238, 3) := by decide +kernel
theorem dX6_entry_66 : decode cX6_entry 66 = .ok (.istore 6, 2) := by decide +kernel
theorem dX6_entry_68 : decode cX6_entry 68 = .ok (.iload 4, 2) := by decide +kernel
theorem dX6_entry_70 : decode cX6_entry 70 = .ok (.iconst 1, 1) := by decide +kernel
theorem dX6_entry_71 : decode cX6_entry 71 = .ok (.if_icmp .ne 6, 3) := by decide +kernel
theorem dX6_entry_74 : decode cX6_entry 74 = .ok (.iload 6, 2) := by decide +kernel
theorem dX6_entry_76 : decode cX6_entry 76 = .ok (.ireturn, 1) := by decide +kernel
theorem dX6_entry_77 : decode cX6_entry 77 = .ok (.iload 4, 2) := by decide +kernel
theorem dX6_entry_79 : decode cX6_entry 79 = .ok (.ifCond .ne 15, 3) := by decide +kernel
theorem dX6_entry_82 : decode cX6_entry 82 = .ok (.aload_n 0, 1) := by decide +kernel
theorem dX6_entry_83 : decode cX6_entry 83 = .ok (.getfield 59, 3) := by decide +kernel
theorem dX6_entry_86 : decode cX6_entry 86 = .ok (.iload 6, 2) := by decide +kernel
theorem dX6_entry_88 : decode cX6_entry 88 = .ok (.invokevirtual 214, 3) := by decide +kernel
theorem dX6_entry_91 : decode cX6_entry 91 = .ok (.goto 12, 3) := by decide +kernel
theorem dX6_entry_94 : decode cX6_entry 94 = .ok (.aload_n 0, 1) := by decide +kernel
theorem dX6_entry_95 : decode cX6_entry 95 = .ok (.getfield 59, 3) := by decide +kernel
theorem dX6_entry_98 : decode cX6_entry 98 = .ok (.iload 6, 2) := by decide +kernel
theorem dX6_entry_100 : decode cX6_entry 100 = .ok (.invokevirtual 220, 3) := by decide +kernel
theorem dX6_entry_103 : decode cX6_entry 103 = .ok (.ireturn, 1) := by decide +kernel
theorem dX6_mayHave_0 : decode cX6_mayHave 0 = .ok (.aload_n 0, 1) := by decide +kernel
theorem dX6_mayHave_1 : decode cX6_mayHave 1 = .ok (.iload_n 1, 1) := by decide +kernel
theorem dX6_mayHave_2 : decode cX6_mayHave 2 = .ok (.iload_n 2, 1) := by decide +kernel
theorem dX6_mayHave_3 : decode cX6_mayHave 3 = .ok (.invokevirtual 226, 3) := by decide +kernel
theorem dX6_mayHave_6 : decode cX6_mayHave 6 = .ok (.istore 4, 2) := by decide +kernel
theorem dX6_mayHave_8 : decode cX6_mayHave 8 = .ok (.iload_n 3, 1) := by decide +kernel
theorem dX6_mayHave_9 : decode cX6_mayHave 9 = .ok (.invokestatic 117, 3) := by decide +kernel
theorem dX6_mayHave_12 : decode cX6_mayHave 12 = .ok (.aload_n 0, 1) := by decide +kernel
theorem dX6_mayHave_13 : decode cX6_mayHave 13 = .ok (.getfield 72, 3) := by decide +kernel
theorem dX6_mayHave_16 : decode cX6_mayHave 16 = .ok (.iload 4, 2) := by decide +kernel
theorem dX6_mayHave_18 : decode cX6_mayHave 18 = .ok (.iload_n 3, 1) := by decide +kernel
theorem dX6_mayHave_19 : decode cX6_mayHave 19 = .ok (.invokevirtual 243, 3) := by decide +kernel
theorem dX6_mayHave_22 : decode cX6_mayHave 22 = .ok (.ireturn, 1) := by decide +kernel
theorem dX6_entries_0 : decode cX6_entries 0 = .ok (.aload_n 0, 1) := by decide +kernel
theorem dX6_entries_1 : decode cX6_entries 1 = .ok (.getfield 72, 3) := by decide +kernel
theorem dX6_entries_4 : decode cX6_entries 4 = .ok (.getfield 247, 3) := by decide +kernel
theorem dX6_entries_7 : decode cX6_entries 7 = .ok (.invokevirtual 137, 3) := by decide +kernel
theorem dX6_entries_10 : decode cX6_entries 10 = .ok (.ireturn, 1) := by decide +kernel
theorem dX6_stones_0 : decode cX6_stones 0 = .ok (.iconst 0, 1) := by decide +kernel
theorem dX6_stones_1 : decode cX6_stones 1 = .ok (.istore_n 1, 1) := by decide +kernel
theorem dX6_stones_2 : decode cX6_stones 2 = .ok (.iconst 0, 1) := by decide +kernel
theorem dX6_stones_3 : decode cX6_stones 3 = .ok (.istore_n 2, 1) := by decide +kernel
theorem dX6_stones_4 : decode cX6_stones 4 = .ok (.iload_n 2, 1) := by decide +kernel
theorem dX6_stones_5 : decode cX6_stones 5 = .ok (.aload_n 0, 1) := by decide +kernel
theorem dX6_stones_6 : decode cX6_stones 6 = .ok (.getfield 72, 3) := by decide +kernel
theorem dX6_stones_9 : decode cX6_stones 9 = .ok (.getfield 247, 3) := by decide +kernel
theorem dX6_stones_12 : decode cX6_stones 12 = .ok (.invokevirtual 137, 3) := by decide +kernel
theorem dX6_stones_15 : decode cX6_stones 15 = .ok (.if_icmp .ge 33, 3) := by decide +kernel
theorem dX6_stones_18 : decode cX6_stones 18 = .ok (.aload_n 0, 1) := by decide +kernel
theorem dX6_stones_19 : decode cX6_stones 19 = .ok (.getfield 59, 3) := by decide +kernel
theorem dX6_stones_22 : decode cX6_stones 22 = .ok (.aload_n 0, 1) := by decide +kernel
theorem dX6_stones_23 : decode cX6_stones 23 = .ok (.getfield 72, 3) := by decide +kernel
theorem dX6_stones_26 : decode cX6_stones 26 = .ok (.getfield 247, 3) := by decide +kernel
theorem dX6_stones_29 : decode cX6_stones 29 = .ok (.iload_n 2, 1) := by decide +kernel
theorem dX6_stones_30 : decode cX6_stones 30 = .ok (.invokevirtual 211, 3) := by decide +kernel
theorem dX6_stones_33 : decode cX6_stones 33 = .ok (.invokevirtual 250, 3) := by decide +kernel
theorem dX6_stones_36 : decode cX6_stones 36 = .ok (.ifCond .eq 6, 3) := by decide +kernel
theorem dX6_stones_39 : decode cX6_stones 39 = .ok (.iinc 1 1, 3) := by decide +kernel
theorem dX6_stones_42 : decode cX6_stones 42 = .ok (.iinc 2 1, 3) := by decide +kernel
theorem dX6_stones_45 : decode cX6_stones 45 = .ok (.goto (-41), 3) := by decide +kernel
theorem dX6_stones_48 : decode cX6_stones 48 = .ok (.iload_n 1, 1) := by decide +kernel
theorem dX6_stones_49 : decode cX6_stones 49 = .ok (.ireturn, 1) := by decide +kernel
theorem dX6_counted_0 : decode cX6_counted 0 = .ok (.iload_n 1, 1) := by decide +kernel
theorem dX6_counted_1 : decode cX6_counted 1 = .ok (.ifCond .lt 9, 3) := by decide +kernel
theorem dX6_counted_4 : decode cX6_counted 4 = .ok (.iload_n 1, 1) := by decide +kernel
theorem dX6_counted_5 : decode cX6_counted 5 = .ok (.bipush 6, 2) := by decide +kernel
theorem dX6_counted_7 : decode cX6_counted 7 = .ok (.if_icmp .lt 13, 3) := by decide +kernel
theorem dX6_counted_10 : decode cX6_counted 10 = .ok (.new 89, 3) := by decide +kernel
theorem dX6_counted_13 : decode cX6_counted 13 = .ok (.dup, 1) := by decide +kernel
theorem dX6_counted_14 : decode cX6_counted 14 = .ok (.ldc 254, 2) := by decide +kernel
theorem dX6_counted_16 : decode cX6_counted 16 = .ok (.invokespecial 93, 3) := by decide +kernel
theorem dX6_counted_19 : decode cX6_counted 19 = .ok (.athrow, 1) := by decide +kernel
theorem dX6_counted_20 : decode cX6_counted 20 = .ok (.aload_n 0, 1) := by decide +kernel
theorem dX6_counted_21 : decode cX6_counted 21 = .ok (.getfield 36, 3) := by decide +kernel
theorem dX6_counted_24 : decode cX6_counted 24 = .ok (.iload_n 1, 1) := by decide +kernel
theorem dX6_counted_25 : decode cX6_counted 25 = .ok (.invokevirtual 211, 3) := by decide +kernel
theorem dX6_counted_28 : decode cX6_counted 28 = .ok (.ireturn, 1) := by decide +kernel
theorem dX6_amplification_0 : decode cX6_amplification 0 = .ok (.aload_n 0, 1) := by decide +kernel
theorem dX6_amplification_1 : decode cX6_amplification 1 = .ok (.getfield 36, 3) := by decide +kernel
theorem dX6_amplification_4 : decode cX6_amplification 4 = .ok (.iconst 3, 1) := by decide +kernel
theorem dX6_amplification_5 : decode cX6_amplification 5 = .ok (.invokevirtual 211, 3) := by decide +kernel
theorem dX6_amplification_8 : decode cX6_amplification 8 = .ok (.istore_n 1, 1) := by decide +kernel
theorem dX6_amplification_9 : decode cX6_amplification 9 = .ok (.iload_n 1, 1) := by decide +kernel
theorem dX6_amplification_10 : decode cX6_amplification 10 = .ok (.ifCond .ne 5, 3) := by decide +kernel
theorem dX6_amplification_13 : decode cX6_amplification 13 = .ok (.dconst 0, 1) := by decide +kernel
theorem dX6_amplification_14 : decode cX6_amplification 14 = .ok (.dreturn, 1) := by decide +kernel
theorem dX6_amplification_15 : decode cX6_amplification 15 = .ok (.aload_n 0, 1) := by decide +kernel
theorem dX6_amplification_16 : decode cX6_amplification 16 = .ok (.getfield 36, 3) := by decide +kernel
theorem dX6_amplification_19 : decode cX6_amplification 19 = .ok (.iconst 5, 1) := by decide +kernel
theorem dX6_amplification_20 : decode cX6_amplification 20 = .ok (.invokevirtual 211, 3) := by decide +kernel
theorem dX6_amplification_23 : decode cX6_amplification 23 = .ok (.i2d, 1) := by decide +kernel
theorem dX6_amplification_24 : decode cX6_amplification 24 = .ok (.iload_n 1, 1) := by decide +kernel
theorem dX6_amplification_25 : decode cX6_amplification 25 = .ok (.i2d, 1) := by decide +kernel
theorem dX6_amplification_26 : decode cX6_amplification 26 = .ok (.ddiv, 1) := by decide +kernel
theorem dX6_amplification_27 : decode cX6_amplification 27 = .ok (.dreturn, 1) := by decide +kernel
theorem dX6_cost_0 : decode cX6_cost 0 = .ok (.iload_n 1, 1) := by decide +kernel
theorem dX6_cost_1 : decode cX6_cost 1 = .ok (.invokestatic 117, 3) := by decide +kernel
theorem dX6_cost_4 : decode cX6_cost 4 = .ok (.aload_n 0, 1) := by decide +kernel
theorem dX6_cost_5 : decode cX6_cost 5 = .ok (.getfield 40, 3) := by decide +kernel
theorem dX6_cost_8 : decode cX6_cost 8 = .ok (.invokevirtual 256, 3) := by decide +kernel
theorem dX6_cost_11 : decode cX6_cost 11 = .ok (.aload_n 0, 1) := by decide +kernel
theorem dX6_cost_12 : decode cX6_cost 12 = .ok (.iload_n 1, 1) := by decide +kernel
theorem dX6_cost_13 : decode cX6_cost 13 = .ok (.aload_n 0, 1) := by decide +kernel
theorem dX6_cost_14 : decode cX6_cost 14 = .ok (.getfield 59, 3) := by decide +kernel
theorem dX6_cost_17 : decode cX6_cost 17 = .ok (.invokevirtual 183, 3) := by decide +kernel
theorem dX6_cost_20 : decode cX6_cost 20 = .ok (.aload_n 0, 1) := by decide +kernel
theorem dX6_cost_21 : decode cX6_cost 21 = .ok (.getfield 40, 3) := by decide +kernel
theorem dX6_cost_24 : decode cX6_cost 24 = .ok (.invokevirtual 195, 3) := by decide +kernel
theorem dX6_cost_27 : decode cX6_cost 27 = .ok (.pop, 1) := by decide +kernel
theorem dX6_cost_28 : decode cX6_cost 28 = .ok (.aload_n 0, 1) := by decide +kernel
theorem dX6_cost_29 : decode cX6_cost 29 = .ok (.getfield 40, 3) := by decide +kernel
theorem dX6_cost_32 : decode cX6_cost 32 = .ok (.iconst 1, 1) := by decide +kernel
theorem dX6_cost_33 : decode cX6_cost 33 = .ok (.invokevirtual 211, 3) := by decide +kernel
theorem dX6_cost_36 : decode cX6_cost 36 = .ok (.ireturn, 1) := by decide +kernel
theorem dX6_wouldSave_0 : decode cX6_wouldSave 0 = .ok (.iload_n 1, 1) := by decide +kernel
theorem dX6_wouldSave_1 : decode cX6_wouldSave 1 = .ok (.invokestatic 143, 3) := by decide +kernel
theorem dX6_wouldSave_4 : decode cX6_wouldSave 4 = .ok (.aload_n 0, 1) := by decide +kernel
theorem dX6_wouldSave_5 : decode cX6_wouldSave 5 = .ok (.iload_n 1, 1) := by decide +kernel
theorem dX6_wouldSave_6 : decode cX6_wouldSave 6 = .ok (.invokevirtual 146, 3) := by decide +kernel
theorem dX6_wouldSave_9 : decode cX6_wouldSave 9 = .ok (.ireturn, 1) := by decide +kernel
theorem dX6_getSafe_0 : decode cX6_getSafe 0 = .ok (.iload_n 1, 1) := by decide +kernel
theorem dX6_getSafe_1 : decode cX6_getSafe 1 = .ok (.invokestatic 117, 3) := by decide +kernel
theorem dX6_getSafe_4 : decode cX6_getSafe 4 = .ok (.iconst 0, 1) := by decide +kernel
theorem dX6_getSafe_5 : decode cX6_getSafe 5 = .ok (.istore_n 2, 1) := by decide +kernel
theorem dX6_getSafe_6 : decode cX6_getSafe 6 = .ok (.iconst 0, 1) := by decide +kernel
theorem dX6_getSafe_7 : decode cX6_getSafe 7 = .ok (.istore_n 3, 1) := by decide +kernel
theorem dX6_getSafe_8 : decode cX6_getSafe 8 = .ok (.iload_n 3, 1) := by decide +kernel
theorem dX6_getSafe_9 : decode cX6_getSafe 9 = .ok (.aload_n 0, 1) := by decide +kernel
theorem dX6_getSafe_10 : decode cX6_getSafe 10 = .ok (.getfield 49, 3) := by decide +kernel
theorem dX6_getSafe_13 : decode cX6_getSafe 13 = .ok (.getfield 259, 3) := by decide +kernel
theorem dX6_getSafe_16 : decode cX6_getSafe 16 = .ok (.if_icmp .ge 43, 3) := by decide +kernel
theorem dX6_getSafe_19 : decode cX6_getSafe 19 = .ok (.aload_n 0, 1) := by decide +kernel
theorem dX6_getSafe_20 : decode cX6_getSafe 20 = .ok (.getfield 59, 3) := by decide +kernel
theorem dX6_getSafe_23 : decode cX6_getSafe 23 = .ok (.aload_n 0, 1) := by decide +kernel
theorem dX6_getSafe_24 : decode cX6_getSafe 24 = .ok (.getfield 49, 3) := by decide +kernel
theorem dX6_getSafe_27 : decode cX6_getSafe 27 = .ok (.getfield 223, 3) := by decide +kernel
theorem dX6_getSafe_30 : decode cX6_getSafe 30 = .ok (.iload_n 3, 1) := by decide +kernel
theorem dX6_getSafe_31 : decode cX6_getSafe 31 = .ok (.invokevirtual 211, 3) := by decide +kernel
theorem dX6_getSafe_34 : decode cX6_getSafe 34 = .ok (.invokevirtual 214, 3) := by decide +kernel
theorem dX6_getSafe_37 : decode cX6_getSafe 37 = .ok (.iload_n 1, 1) := by decide +kernel
theorem dX6_getSafe_38 : decode cX6_getSafe 38 = .ok (.if_icmp .ne 15, 3) := by decide +kernel
theorem dX6_getSafe_41 : decode cX6_getSafe 41 = .ok (.aload_n 0, 1) := by decide +kernel
theorem dX6_getSafe_42 : decode cX6_getSafe 42 = .ok (.getfield 49, 3) := by decide +kernel
theorem dX6_getSafe_45 : decode cX6_getSafe 45 = .ok (.getfield 223, 3) := by decide +kernel
theorem dX6_getSafe_48 : decode cX6_getSafe 48 = .ok (.iload_n 3, 1) := by decide +kernel
theorem dX6_getSafe_49 : decode cX6_getSafe 49 = .ok (.invokevirtual 211, 3) := by decide +kernel
theorem dX6_getSafe_52 : decode cX6_getSafe 52 = .ok (.istore_n 2, 1) := by decide +kernel
theorem dX6_getSafe_53 : decode cX6_getSafe 53 = .ok (.iinc 3 1, 3) := by decide +kernel
theorem dX6_getSafe_56 : decode cX6_getSafe 56 = .ok (.goto (-48), 3) := by decide +kernel
theorem dX6_getSafe_59 : decode cX6_getSafe 59 = .ok (.aload_n 0, 1) := by decide +kernel
theorem dX6_getSafe_60 : decode cX6_getSafe 60 = .ok (.iload_n 2, 1) := by decide +kernel
theorem dX6_getSafe_61 : decode cX6_getSafe 61 = .ok (.ifCond .eq 7, 3) := by decide +kernel
theorem dX6_getSafe_64 : decode cX6_getSafe 64 = .ok (.iload_n 2, 1) := by decide +kernel
theorem dX6_getSafe_65 : decode cX6_getSafe 65 = .ok (.goto 19, 3) := by decide +kernel
theorem dX6_getSafe_68 : decode cX6_getSafe 68 = .ok (.aload_n 0, 1) := by decide +kernel
theorem dX6_getSafe_69 : decode cX6_getSafe 69 = .ok (.iload_n 1, 1) := by decide +kernel
theorem dX6_getSafe_70 : decode cX6_getSafe 70 = .ok (.aload_n 0, 1) := by decide +kernel
theorem dX6_getSafe_71 : decode cX6_getSafe 71 = .ok (.getfield 59, 3) := by decide +kernel
theorem dX6_getSafe_74 : decode cX6_getSafe 74 = .ok (.invokevirtual 183, 3) := by decide +kernel
theorem dX6_getSafe_77 : decode cX6_getSafe 77 = .ok (.aload_n 0, 1) := by decide +kernel
theorem dX6_getSafe_78 : decode cX6_getSafe 78 = .ok (.getfield 40, 3) := by decide +kernel
theorem dX6_getSafe_81 : decode cX6_getSafe 81 = .ok (.invokevirtual 262, 3) := by decide +kernel
theorem dX6_getSafe_84 : decode cX6_getSafe 84 = .ok (.invokevirtual 199, 3) := by decide +kernel
theorem dX6_getSafe_87 : decode cX6_getSafe 87 = .ok (.ireturn, 1) := by decide +kernel
theorem dX6_digest_0 : decode cX6_digest 0 = .ok (.ldc2_w 265, 3) := by decide +kernel
theorem dX6_digest_3 : decode cX6_digest 3 = .ok (.lstore_n 1, 1) := by decide +kernel
theorem dX6_digest_4 : decode cX6_digest 4 = .ok (.lload_n 1, 1) := by decide +kernel
theorem dX6_digest_5 : decode cX6_digest 5 = .ok (.ldc2_w 267, 3) := by decide +kernel
theorem dX6_digest_8 : decode cX6_digest 8 = .ok (.lmul, 1) := by decide +kernel
theorem dX6_digest_9 : decode cX6_digest 9 = .ok (.aload_n 0, 1) := by decide +kernel
theorem dX6_digest_10 : decode cX6_digest 10 = .ok (.invokevirtual 269, 3) := by decide +kernel
theorem dX6_digest_13 : decode cX6_digest 13 = .ok (.i2l, 1) := by decide +kernel
theorem dX6_digest_14 : decode cX6_digest 14 = .ok (.ladd, 1) := by decide +kernel
theorem dX6_digest_15 : decode cX6_digest 15 = .ok (.lstore_n 1, 1) := by decide +kernel
theorem dX6_digest_16 : decode cX6_digest 16 = .ok (.lload_n 1, 1) := by decide +kernel
theorem dX6_digest_17 : decode cX6_digest 17 = .ok (.ldc2_w 267, 3) := by decide +kernel
theorem dX6_digest_20 : decode cX6_digest 20 = .ok (.lmul, 1) := by decide +kernel
theorem dX6_digest_21 : decode cX6_digest 21 = .ok (.aload_n 0, 1) := by decide +kernel
theorem dX6_digest_22 : decode cX6_digest 22 = .ok (.invokevirtual 272, 3) := by decide +kernel
theorem dX6_digest_25 : decode cX6_digest 25 = .ok (.i2l, 1) := by decide +kernel
theorem dX6_digest_26 : decode cX6_digest 26 = .ok (.ladd, 1) := by decide +kernel
theorem dX6_digest_27 : decode cX6_digest 27 = .ok (.lstore_n 1, 1) := by decide +kernel
theorem dX6_digest_28 : decode cX6_digest 28 = .ok (.lload_n 1, 1) := by decide +kernel
theorem dX6_digest_29 : decode cX6_digest 29 = .ok (.ldc2_w 267, 3) := by decide +kernel
theorem dX6_digest_32 : decode cX6_digest 32 = .ok (.lmul, 1) := by decide +kernel
theorem dX6_digest_33 : decode cX6_digest 33 = .ok (.aload_n 0, 1) := by decide +kernel
theorem dX6_digest_34 : decode cX6_digest 34 = .ok (.invokevirtual 275, 3) := by decide +kernel
theorem dX6_digest_37 : decode cX6_digest 37 = .ok (.i2l, 1) := by decide +kernel
theorem dX6_digest_38 : decode cX6_digest 38 = .ok (.ladd, 1) := by decide +kernel
theorem dX6_digest_39 : decode cX6_digest 39 = .ok (.lstore_n 1, 1) := by decide +kernel
theorem dX6_digest_40 : decode cX6_digest 40 = .ok (.lload_n 1, 1) := by decide +kernel
theorem dX6_digest_41 : decode cX6_digest 41 = .ok (.ldc2_w 267, 3) := by decide +kernel
theorem dX6_digest_44 : decode cX6_digest 44 = .ok (.lmul, 1) := by decide +kernel
theorem dX6_digest_45 : decode cX6_digest 45 = .ok (.aload_n 0, 1) := by decide +kernel
theorem dX6_digest_46 : decode cX6_digest 46 = .ok (.invokevirtual 278, 3) := by decide +kernel
theorem dX6_digest_49 : decode cX6_digest 49 = .ok (.i2l, 1) := by decide +kernel
theorem dX6_digest_50 : decode cX6_digest 50 = .ok (.ladd, 1) := by decide +kernel
theorem dX6_digest_51 : decode cX6_digest 51 = .ok (.lstore_n 1, 1) := by decide +kernel
theorem dX6_digest_52 : decode cX6_digest 52 = .ok (.lload_n 1, 1) := by decide +kernel
theorem dX6_digest_53 : decode cX6_digest 53 = .ok (.ldc2_w 267, 3) := by decide +kernel
theorem dX6_digest_56 : decode cX6_digest 56 = .ok (.lmul, 1) := by decide +kernel
theorem dX6_digest_57 : decode cX6_digest 57 = .ok (.aload_n 0, 1) := by decide +kernel
theorem dX6_digest_58 : decode cX6_digest 58 = .ok (.invokevirtual 281, 3) := by decide +kernel
theorem dX6_digest_61 : decode cX6_digest 61 = .ok (.i2l, 1) := by decide +kernel
theorem dX6_digest_62 : decode cX6_digest 62 = .ok (.ladd, 1) := by decide +kernel
theorem dX6_digest_63 : decode cX6_digest 63 = .ok (.lstore_n 1, 1) := by decide +kernel
theorem dX6_digest_64 : decode cX6_digest 64 = .ok (.lload_n 1, 1) := by decide +kernel
theorem dX6_digest_65 : decode cX6_digest 65 = .ok (.ldc2_w 267, 3) := by decide +kernel
theorem dX6_digest_68 : decode cX6_digest 68 = .ok (.lmul, 1) := by decide +kernel
theorem dX6_digest_69 : decode cX6_digest 69 = .ok (.aload_n 0, 1) := by decide +kernel
theorem dX6_digest_70 : decode cX6_digest 70 = .ok (.invokevirtual 284, 3) := by decide +kernel
theorem dX6_digest_73 : decode cX6_digest 73 = .ok (.i2l, 1) := by decide +kernel
theorem dX6_digest_74 : decode cX6_digest 74 = .ok (.ladd, 1) := by decide +kernel
theorem dX6_digest_75 : decode cX6_digest 75 = .ok (.lstore_n 1, 1) := by decide +kernel
theorem dX6_digest_76 : decode cX6_digest 76 = .ok (.lload_n 1, 1) := by decide +kernel
theorem dX6_digest_77 : decode cX6_digest 77 = .ok (.ldc2_w 267, 3) := by decide +kernel
theorem dX6_digest_80 : decode cX6_digest 80 = .ok (.lmul, 1) := by decide +kernel
theorem dX6_digest_81 : decode cX6_digest 81 = .ok (.aload_n 0, 1) := by decide +kernel
theorem dX6_digest_82 : decode cX6_digest 82 = .ok (.invokevirtual 287, 3) := by decide +kernel
theorem dX6_digest_85 : decode cX6_digest 85 = .ok (.i2l, 1) := by decide +kernel
theorem dX6_digest_86 : decode cX6_digest 86 = .ok (.ladd, 1) := by decide +kernel
theorem dX6_digest_87 : decode cX6_digest 87 = .ok (.lstore_n 1, 1) := by decide +kernel
theorem dX6_digest_88 : decode cX6_digest 88 = .ok (.iconst 0, 1) := by decide +kernel
theorem dX6_digest_89 : decode cX6_digest 89 = .ok (.istore_n 3, 1) := by decide +kernel
theorem dX6_digest_90 : decode cX6_digest 90 = .ok (.iload_n 3, 1) := by decide +kernel
theorem dX6_digest_91 : decode cX6_digest 91 = .ok (.bipush 6, 2) := by decide +kernel
theorem dX6_digest_93 : decode cX6_digest 93 = .ok (.if_icmp .ge 25, 3) := by decide +kernel
theorem dX6_digest_96 : decode cX6_digest 96 = .ok (.lload_n 1, 1) := by decide +kernel
theorem dX6_digest_97 : decode cX6_digest 97 = .ok (.ldc2_w 267, 3) := by decide +kernel
theorem dX6_digest_100 : decode cX6_digest 100 = .ok (.lmul, 1) := by decide +kernel
theorem dX6_digest_101 : decode cX6_digest 101 = .ok (.aload_n 0, 1) := by decide +kernel
theorem dX6_digest_102 : decode cX6_digest 102 = .ok (.getfield 36, 3) := by decide +kernel
theorem dX6_digest_105 : decode cX6_digest 105 = .ok (.iload_n 3, 1) := by decide +kernel
theorem dX6_digest_106 : decode cX6_digest 106 = .ok (.invokevirtual 211, 3) := by decide +kernel
theorem dX6_digest_109 : decode cX6_digest 109 = .ok (.i2l, 1) := by decide +kernel
theorem dX6_digest_110 : decode cX6_digest 110 = .ok (.ladd, 1) := by decide +kernel
theorem dX6_digest_111 : decode cX6_digest 111 = .ok (.lstore_n 1, 1) := by decide +kernel
theorem dX6_digest_112 : decode cX6_digest 112 = .ok (.iinc 3 1, 3) := by decide +kernel
theorem dX6_digest_115 : decode cX6_digest 115 = .ok (.goto (-25), 3) := by decide +kernel
theorem dX6_digest_118 : decode cX6_digest 118 = .ok (.iconst 0, 1) := by decide +kernel
theorem dX6_digest_119 : decode cX6_digest 119 = .ok (.istore_n 3, 1) := by decide +kernel
theorem dX6_digest_120 : decode cX6_digest 120 = .ok (.iload_n 3, 1) := by decide +kernel
theorem dX6_digest_121 : decode cX6_digest 121 = .ok (.iconst 4, 1) := by decide +kernel
theorem dX6_digest_122 : decode cX6_digest 122 = .ok (.if_icmp .ge 93, 3) := by decide +kernel
theorem dX6_digest_125 : decode cX6_digest 125 = .ok (.lload_n 1, 1) := by decide +kernel
theorem dX6_digest_126 : decode cX6_digest 126 = .ok (.ldc2_w 267, 3) := by decide +kernel
theorem dX6_digest_129 : decode cX6_digest 129 = .ok (.lmul, 1) := by decide +kernel
theorem dX6_digest_130 : decode cX6_digest 130 = .ok (.aload_n 0, 1) := by decide +kernel
theorem dX6_digest_131 : decode cX6_digest 131 = .ok (.getfield 72, 3) := by decide +kernel
theorem dX6_digest_134 : decode cX6_digest 134 = .ok (.iload_n 3, 1) := by decide +kernel
theorem dX6_digest_135 : decode cX6_digest 135 = .ok (.invokevirtual 156, 3) := by decide +kernel
theorem dX6_digest_138 : decode cX6_digest 138 = .ok (.i2l, 1) := by decide +kernel
theorem dX6_digest_139 : decode cX6_digest 139 = .ok (.ladd, 1) := by decide +kernel
theorem dX6_digest_140 : decode cX6_digest 140 = .ok (.lstore_n 1, 1) := by decide +kernel
theorem dX6_digest_141 : decode cX6_digest 141 = .ok (.lload_n 1, 1) := by decide +kernel
theorem dX6_digest_142 : decode cX6_digest 142 = .ok (.ldc2_w 267, 3) := by decide +kernel
theorem dX6_digest_145 : decode cX6_digest 145 = .ok (.lmul, 1) := by decide +kernel
theorem dX6_digest_146 : decode cX6_digest 146 = .ok (.aload_n 0, 1) := by decide +kernel
theorem dX6_digest_147 : decode cX6_digest 147 = .ok (.getfield 43, 3) := by decide +kernel
theorem dX6_digest_150 : decode cX6_digest 150 = .ok (.iload_n 3, 1) := by decide +kernel
theorem dX6_digest_151 : decode cX6_digest 151 = .ok (.invokevirtual 211, 3) := by decide +kernel
theorem dX6_digest_154 : decode cX6_digest 154 = .ok (.i2l, 1) := by decide +kernel
theorem dX6_digest_155 : decode cX6_digest 155 = .ok (.ladd, 1) := by decide +kernel
theorem dX6_digest_156 : decode cX6_digest 156 = .ok (.lstore_n 1, 1) := by decide +kernel
theorem dX6_digest_157 : decode cX6_digest 157 = .ok (.lload_n 1, 1) := by decide +kernel
theorem dX6_digest_158 : decode cX6_digest 158 = .ok (.ldc2_w 267, 3) := by decide +kernel
theorem dX6_digest_161 : decode cX6_digest 161 = .ok (.lmul, 1) := by decide +kernel
theorem dX6_digest_162 : decode cX6_digest 162 = .ok (.aload_n 0, 1) := by decide +kernel
theorem dX6_digest_163 : decode cX6_digest 163 = .ok (.iload_n 3, 1) := by decide +kernel
theorem dX6_digest_164 : decode cX6_digest 164 = .ok (.invokevirtual 146, 3) := by decide +kernel
theorem dX6_digest_167 : decode cX6_digest 167 = .ok (.i2l, 1) := by decide +kernel
theorem dX6_digest_168 : decode cX6_digest 168 = .ok (.ladd, 1) := by decide +kernel
theorem dX6_digest_169 : decode cX6_digest 169 = .ok (.lstore_n 1, 1) := by decide +kernel
theorem dX6_digest_170 : decode cX6_digest 170 = .ok (.aload_n 0, 1) := by decide +kernel
theorem dX6_digest_171 : decode cX6_digest 171 = .ok (.getfield 72, 3) := by decide +kernel
theorem dX6_digest_174 : decode cX6_digest 174 = .ok (.iload_n 3, 1) := by decide +kernel
theorem dX6_digest_175 : decode cX6_digest 175 = .ok (.invokevirtual 153, 3) := by decide +kernel
theorem dX6_digest_178 : decode cX6_digest 178 = .ok (.istore 4, 2) := by decide +kernel
theorem dX6_digest_180 : decode cX6_digest 180 = .ok (.iload 4, 2) := by decide +kernel
theorem dX6_digest_182 : decode cX6_digest 182 = .ok (.aload_n 0, 1) := by decide +kernel
theorem dX6_digest_183 : decode cX6_digest 183 = .ok (.getfield 72, 3) := by decide +kernel
theorem dX6_digest_186 : decode cX6_digest 186 = .ok (.iload_n 3, 1) := by decide +kernel
theorem dX6_digest_187 : decode cX6_digest 187 = .ok (.iconst 1, 1) := by decide +kernel
theorem dX6_digest_188 : decode cX6_digest 188 = .ok (.iadd, 1) := by decide +kernel
theorem dX6_digest_189 : decode cX6_digest 189 = .ok (.invokevirtual 153, 3) := by decide +kernel
theorem dX6_digest_192 : decode cX6_digest 192 = .ok (.if_icmp .ge 17, 3) := by decide +kernel
theorem dX6_digest_195 : decode cX6_digest 195 = .ok (.aload_n 0, 1) := by decide +kernel
theorem dX6_digest_196 : decode cX6_digest 196 = .ok (.lload_n 1, 1) := by decide +kernel
theorem dX6_digest_197 : decode cX6_digest 197 = .ok (.iload 4, 2) := by decide +kernel
theorem dX6_digest_199 : decode cX6_digest 199 = .ok (.invokevirtual 290, 3) := by decide +kernel
theorem dX6_digest_202 : decode cX6_digest 202 = .ok (.lstore_n 1, 1) := by decide +kernel
theorem dX6_digest_203 : decode cX6_digest 203 = .ok (.iinc 4 1, 3) := by decide +kernel
theorem dX6_digest_206 : decode cX6_digest 206 = .ok (.goto (-26), 3) := by decide +kernel
theorem dX6_digest_209 : decode cX6_digest 209 = .ok (.iinc 3 1, 3) := by decide +kernel
theorem dX6_digest_212 : decode cX6_digest 212 = .ok (.goto (-92), 3) := by decide +kernel
theorem dX6_digest_215 : decode cX6_digest 215 = .ok (.lload_n 1, 1) := by decide +kernel
theorem dX6_digest_216 : decode cX6_digest 216 = .ok (.ldc2_w 267, 3) := by decide +kernel
theorem dX6_digest_219 : decode cX6_digest 219 = .ok (.lmul, 1) := by decide +kernel
theorem dX6_digest_220 : decode cX6_digest 220 = .ok (.aload_n 0, 1) := by decide +kernel
theorem dX6_digest_221 : decode cX6_digest 221 = .ok (.iconst 0, 1) := by decide +kernel
theorem dX6_digest_222 : decode cX6_digest 222 = .ok (.sipush 9999, 3) := by decide +kernel
theorem dX6_digest_225 : decode cX6_digest 225 = .ok (.invokevirtual 294, 3) := by decide +kernel
theorem dX6_digest_228 : decode cX6_digest 228 = .ok (.i2l, 1) := by decide +kernel
theorem dX6_digest_229 : decode cX6_digest 229 = .ok (.ladd, 1) := by decide +kernel
theorem dX6_digest_230 : decode cX6_digest 230 = .ok (.lreturn, 1) := by decide +kernel
theorem dX6_digestRun_0 : decode cX6_digestRun 0 = .ok (.lload_n 1, 1) := by decide +kernel
theorem dX6_digestRun_1 : decode cX6_digestRun 1 = .ok (.ldc2_w 267, 3) := by decide +kernel
theorem dX6_digestRun_4 : decode cX6_digestRun 4 = .ok (.lmul, 1) := by decide +kernel
theorem dX6_digestRun_5 : decode cX6_digestRun 5 = .ok (.aload_n 0, 1) := by decide +kernel
theorem dX6_digestRun_6 : decode cX6_digestRun 6 = .ok (.getfield 72, 3) := by decide +kernel
theorem dX6_digestRun_9 : decode cX6_digestRun 9 = .ok (.iload_n 3, 1) := by decide +kernel
theorem dX6_digestRun_10 : decode cX6_digestRun 10 = .ok (.invokevirtual 229, 3) := by decide +kernel
theorem dX6_digestRun_13 : decode cX6_digestRun 13 = .ok (.i2l, 1) := by decide +kernel
theorem dX6_digestRun_14 : decode cX6_digestRun 14 = .ok (.ladd, 1) := by decide +kernel
theorem dX6_digestRun_15 : decode cX6_digestRun 15 = .ok (.lstore 4, 2) := by decide +kernel
theorem dX6_digestRun_17 : decode cX6_digestRun 17 = .ok (.lload 4, 2) := by decide +kernel
theorem dX6_digestRun_19 : decode cX6_digestRun 19 = .ok (.ldc2_w 267, 3) := by decide +kernel
theorem dX6_digestRun_22 : decode cX6_digestRun 22 = .ok (.lmul, 1) := by decide +kernel
theorem dX6_digestRun_23 : decode cX6_digestRun 23 = .ok (.aload_n 0, 1) := by decide +kernel
theorem dX6_digestRun_24 : decode cX6_digestRun 24 = .ok (.getfield 72, 3) := by decide +kernel
theorem dX6_digestRun_27 : decode cX6_digestRun 27 = .ok (.iload_n 3, 1) := by decide +kernel
theorem dX6_digestRun_28 : decode cX6_digestRun 28 = .ok (.invokevirtual 240, 3) := by decide +kernel
theorem dX6_digestRun_31 : decode cX6_digestRun 31 = .ok (.i2l, 1) := by decide +kernel
theorem dX6_digestRun_32 : decode cX6_digestRun 32 = .ok (.ladd, 1) := by decide +kernel
theorem dX6_digestRun_33 : decode cX6_digestRun 33 = .ok (.lstore 4, 2) := by decide +kernel
theorem dX6_digestRun_35 : decode cX6_digestRun 35 = .ok (.iconst 0, 1) := by decide +kernel
theorem dX6_digestRun_36 : decode cX6_digestRun 36 = .ok (.istore 6, 2) := by decide +kernel
theorem dX6_digestRun_38 : decode cX6_digestRun 38 = .ok (.iload 6, 2) := by decide +kernel
theorem dX6_digestRun_40 : decode cX6_digestRun 40 = .ok (.aload_n 0, 1) := by decide +kernel
theorem dX6_digestRun_41 : decode cX6_digestRun 41 = .ok (.getfield 72, 3) := by decide +kernel
theorem dX6_digestRun_44 : decode cX6_digestRun 44 = .ok (.iload_n 3, 1) := by decide +kernel
theorem dX6_digestRun_45 : decode cX6_digestRun 45 = .ok (.invokevirtual 229, 3) := by decide +kernel
theorem dX6_digestRun_48 : decode cX6_digestRun 48 = .ok (.if_icmp .ge 71, 3) := by decide +kernel
theorem dX6_digestRun_51 : decode cX6_digestRun 51 = .ok (.aload_n 0, 1) := by decide +kernel
theorem dX6_digestRun_52 : decode cX6_digestRun 52 = .ok (.getfield 72, 3) := by decide +kernel
theorem dX6_digestRun_55 : decode cX6_digestRun 55 = .ok (.iload_n 3, 1) := by decide +kernel
theorem dX6_digestRun_56 : decode cX6_digestRun 56 = .ok (.iload 6, 2) := by decide +kernel
theorem dX6_digestRun_58 : decode cX6_digestRun 58 = .ok (.invokevirtual 238, 3) := by decide +kernel
theorem dX6_digestRun_61 : decode cX6_digestRun 61 = .ok (.istore 7, 2) := by decide +kernel
theorem dX6_digestRun_63 : decode cX6_digestRun 63 = .ok (.lload 4, 2) := by decide +kernel
theorem dX6_digestRun_65 : decode cX6_digestRun 65 = .ok (.ldc2_w 267, 3) := by decide +kernel
theorem dX6_digestRun_68 : decode cX6_digestRun 68 = .ok (.lmul, 1) := by decide +kernel
theorem dX6_digestRun_69 : decode cX6_digestRun 69 = .ok (.aload_n 0, 1) := by decide +kernel
theorem dX6_digestRun_70 : decode cX6_digestRun 70 = .ok (.getfield 59, 3) := by decide +kernel
theorem dX6_digestRun_73 : decode cX6_digestRun 73 = .ok (.iload 7, 2) := by decide +kernel
theorem dX6_digestRun_75 : decode cX6_digestRun 75 = .ok (.invokevirtual 214, 3) := by decide +kernel
theorem dX6_digestRun_78 : decode cX6_digestRun 78 = .ok (.i2l, 1) := by decide +kernel
theorem dX6_digestRun_79 : decode cX6_digestRun 79 = .ok (.ladd, 1) := by decide +kernel
theorem dX6_digestRun_80 : decode cX6_digestRun 80 = .ok (.lstore 4, 2) := by decide +kernel
theorem dX6_digestRun_82 : decode cX6_digestRun 82 = .ok (.lload 4, 2) := by decide +kernel
theorem dX6_digestRun_84 : decode cX6_digestRun 84 = .ok (.ldc2_w 267, 3) := by decide +kernel
theorem dX6_digestRun_87 : decode cX6_digestRun 87 = .ok (.lmul, 1) := by decide +kernel
theorem dX6_digestRun_88 : decode cX6_digestRun 88 = .ok (.iload 7, 2) := by decide +kernel
theorem dX6_digestRun_90 : decode cX6_digestRun 90 = .ok (.i2l, 1) := by decide +kernel
theorem dX6_digestRun_91 : decode cX6_digestRun 91 = .ok (.ladd, 1) := by decide +kernel
theorem dX6_digestRun_92 : decode cX6_digestRun 92 = .ok (.lstore 4, 2) := by decide +kernel
theorem dX6_digestRun_94 : decode cX6_digestRun 94 = .ok (.lload 4, 2) := by decide +kernel
theorem dX6_digestRun_96 : decode cX6_digestRun 96 = .ok (.ldc2_w 267, 3) := by decide +kernel
theorem dX6_digestRun_99 : decode cX6_digestRun 99 = .ok (.lmul, 1) := by decide +kernel
theorem dX6_digestRun_100 : decode cX6_digestRun 100 = .ok (.aload_n 0, 1) := by decide +kernel
theorem dX6_digestRun_101 : decode cX6_digestRun 101 = .ok (.getfield 59, 3) := by decide +kernel
theorem dX6_digestRun_104 : decode cX6_digestRun 104 = .ok (.iload 7, 2) := by decide +kernel
theorem dX6_digestRun_106 : decode cX6_digestRun 106 = .ok (.invokevirtual 220, 3) := by decide +kernel
theorem dX6_digestRun_109 : decode cX6_digestRun 109 = .ok (.i2l, 1) := by decide +kernel
theorem dX6_digestRun_110 : decode cX6_digestRun 110 = .ok (.ladd, 1) := by decide +kernel
theorem dX6_digestRun_111 : decode cX6_digestRun 111 = .ok (.lstore 4, 2) := by decide +kernel
theorem dX6_digestRun_113 : decode cX6_digestRun 113 = .ok (.iinc 6 1, 3) := by decide +kernel
theorem dX6_digestRun_116 : decode cX6_digestRun 116 = .ok (.goto (-78), 3) := by decide +kernel
theorem dX6_digestRun_119 : decode cX6_digestRun 119 = .ok (.lload 4, 2) := by decide +kernel
theorem dX6_digestRun_121 : decode cX6_digestRun 121 = .ok (.lreturn, 1) := by decide +kernel
theorem dX6_checkKey_0 : decode cX6_checkKey 0 = .ok (.iload_n 0, 1) := by decide +kernel
theorem dX6_checkKey_1 : decode cX6_checkKey 1 = .ok (.ifCond .lt 10, 3) := by decide +kernel
theorem dX6_checkKey_4 : decode cX6_checkKey 4 = .ok (.iload_n 0, 1) := by decide +kernel
theorem dX6_checkKey_5 : decode cX6_checkKey 5 = .ok (.sipush 9999, 3) := by decide +kernel
theorem dX6_checkKey_8 : decode cX6_checkKey 8 = .ok (.if_icmp .le 14, 3) := by decide +kernel
theorem dX6_checkKey_11 : decode cX6_checkKey 11 = .ok (.new 89, 3) := by decide +kernel
theorem dX6_checkKey_14 : decode cX6_checkKey 14 = .ok (.dup, 1) := by decide +kernel
theorem dX6_checkKey_15 : decode cX6_checkKey 15 = .ok (.ldc_w 297, 3) := by decide +kernel
theorem dX6_checkKey_18 : decode cX6_checkKey 18 = .ok (.invokespecial 93, 3) := by decide +kernel
theorem dX6_checkKey_21 : decode cX6_checkKey 21 = .ok (.athrow, 1) := by decide +kernel
theorem dX6_checkKey_22 : decode cX6_checkKey 22 = .ok (.return_, 1) := by decide +kernel
theorem dX6_checkKeys_0 : decode cX6_checkKeys 0 = .ok (.iload_n 0, 1) := by decide +kernel
theorem dX6_checkKeys_1 : decode cX6_checkKeys 1 = .ok (.ifCond .lt 22, 3) := by decide +kernel
theorem dX6_checkKeys_4 : decode cX6_checkKeys 4 = .ok (.iload_n 0, 1) := by decide +kernel
theorem dX6_checkKeys_5 : decode cX6_checkKeys 5 = .ok (.sipush 9999, 3) := by decide +kernel
theorem dX6_checkKeys_8 : decode cX6_checkKeys 8 = .ok (.if_icmp .gt 15, 3) := by decide +kernel
theorem dX6_checkKeys_11 : decode cX6_checkKeys 11 = .ok (.iload_n 1, 1) := by decide +kernel
theorem dX6_checkKeys_12 : decode cX6_checkKeys 12 = .ok (.iload_n 0, 1) := by decide +kernel
theorem dX6_checkKeys_13 : decode cX6_checkKeys 13 = .ok (.if_icmp .lt 10, 3) := by decide +kernel
theorem dX6_checkKeys_16 : decode cX6_checkKeys 16 = .ok (.iload_n 1, 1) := by decide +kernel
theorem dX6_checkKeys_17 : decode cX6_checkKeys 17 = .ok (.sipush 9999, 3) := by decide +kernel
theorem dX6_checkKeys_20 : decode cX6_checkKeys 20 = .ok (.if_icmp .le 14, 3) := by decide +kernel
theorem dX6_checkKeys_23 : decode cX6_checkKeys 23 = .ok (.new 89, 3) := by decide +kernel
theorem dX6_checkKeys_26 : decode cX6_checkKeys 26 = .ok (.dup, 1) := by decide +kernel
theorem dX6_checkKeys_27 : decode cX6_checkKeys 27 = .ok (.ldc_w 299, 3) := by decide +kernel
theorem dX6_checkKeys_30 : decode cX6_checkKeys 30 = .ok (.invokespecial 93, 3) := by decide +kernel
theorem dX6_checkKeys_33 : decode cX6_checkKeys 33 = .ok (.athrow, 1) := by decide +kernel
theorem dX6_checkKeys_34 : decode cX6_checkKeys 34 = .ok (.return_, 1) := by decide +kernel
theorem dX6_checkLevel_0 : decode cX6_checkLevel 0 = .ok (.iload_n 0, 1) := by decide +kernel
theorem dX6_checkLevel_1 : decode cX6_checkLevel 1 = .ok (.ifCond .lt 8, 3) := by decide +kernel
theorem dX6_checkLevel_4 : decode cX6_checkLevel 4 = .ok (.iload_n 0, 1) := by decide +kernel
theorem dX6_checkLevel_5 : decode cX6_checkLevel 5 = .ok (.iconst 4, 1) := by decide +kernel
theorem dX6_checkLevel_6 : decode cX6_checkLevel 6 = .ok (.if_icmp .lt 14, 3) := by decide +kernel
theorem dX6_checkLevel_9 : decode cX6_checkLevel 9 = .ok (.new 231, 3) := by decide +kernel
theorem dX6_checkLevel_12 : decode cX6_checkLevel 12 = .ok (.dup, 1) := by decide +kernel
theorem dX6_checkLevel_13 : decode cX6_checkLevel 13 = .ok (.ldc_w 301, 3) := by decide +kernel
theorem dX6_checkLevel_16 : decode cX6_checkLevel 16 = .ok (.invokespecial 235, 3) := by decide +kernel
theorem dX6_checkLevel_19 : decode cX6_checkLevel 19 = .ok (.athrow, 1) := by decide +kernel
theorem dX6_checkLevel_20 : decode cX6_checkLevel 20 = .ok (.return_, 1) := by decide +kernel
theorem dX6_numberOf_0 : decode cX6_numberOf 0 = .ok (.iload_n 1, 1) := by decide +kernel
theorem dX6_numberOf_1 : decode cX6_numberOf 1 = .ok (.invokestatic 143, 3) := by decide +kernel
theorem dX6_numberOf_4 : decode cX6_numberOf 4 = .ok (.iload_n 2, 1) := by decide +kernel
theorem dX6_numberOf_5 : decode cX6_numberOf 5 = .ok (.ifCond .lt 15, 3) := by decide +kernel
theorem dX6_numberOf_8 : decode cX6_numberOf 8 = .ok (.iload_n 2, 1) := by decide +kernel
theorem dX6_numberOf_9 : decode cX6_numberOf 9 = .ok (.aload_n 0, 1) := by decide +kernel
theorem dX6_numberOf_10 : decode cX6_numberOf 10 = .ok (.getfield 72, 3) := by decide +kernel
theorem dX6_numberOf_13 : decode cX6_numberOf 13 = .ok (.iload_n 1, 1) := by decide +kernel
theorem dX6_numberOf_14 : decode cX6_numberOf 14 = .ok (.invokevirtual 156, 3) := by decide +kernel
theorem dX6_numberOf_17 : decode cX6_numberOf 17 = .ok (.if_icmp .lt 14, 3) := by decide +kernel
theorem dX6_numberOf_20 : decode cX6_numberOf 20 = .ok (.new 231, 3) := by decide +kernel
theorem dX6_numberOf_23 : decode cX6_numberOf 23 = .ok (.dup, 1) := by decide +kernel
theorem dX6_numberOf_24 : decode cX6_numberOf 24 = .ok (.ldc_w 303, 3) := by decide +kernel
theorem dX6_numberOf_27 : decode cX6_numberOf 27 = .ok (.invokespecial 235, 3) := by decide +kernel
theorem dX6_numberOf_30 : decode cX6_numberOf 30 = .ok (.athrow, 1) := by decide +kernel
theorem dX6_numberOf_31 : decode cX6_numberOf 31 = .ok (.aload_n 0, 1) := by decide +kernel
theorem dX6_numberOf_32 : decode cX6_numberOf 32 = .ok (.getfield 72, 3) := by decide +kernel
theorem dX6_numberOf_35 : decode cX6_numberOf 35 = .ok (.iload_n 1, 1) := by decide +kernel
theorem dX6_numberOf_36 : decode cX6_numberOf 36 = .ok (.invokevirtual 153, 3) := by decide +kernel
theorem dX6_numberOf_39 : decode cX6_numberOf 39 = .ok (.iload_n 2, 1) := by decide +kernel
theorem dX6_numberOf_40 : decode cX6_numberOf 40 = .ok (.iadd, 1) := by decide +kernel
theorem dX6_numberOf_41 : decode cX6_numberOf 41 = .ok (.ireturn, 1) := by decide +kernel
theorem dX6_placeOfSnapshot_0 : decode cX6_placeOfSnapshot 0 = .ok (.aload_n 0, 1) := by decide +kernel
theorem dX6_placeOfSnapshot_1 : decode cX6_placeOfSnapshot 1 = .ok (.getfield 63, 3) := by decide +kernel
theorem dX6_placeOfSnapshot_4 : decode cX6_placeOfSnapshot 4 = .ok (.iload_n 1, 1) := by decide +kernel
theorem dX6_placeOfSnapshot_5 : decode cX6_placeOfSnapshot 5 = .ok (.invokevirtual 305, 3) := by decide +kernel
theorem dX6_placeOfSnapshot_8 : decode cX6_placeOfSnapshot 8 = .ok (.istore_n 2, 1) := by decide +kernel
theorem dX6_placeOfSnapshot_9 : decode cX6_placeOfSnapshot 9 = .ok (.iload_n 2, 1) := by decide +kernel
theorem dX6_placeOfSnapshot_10 : decode cX6_placeOfSnapshot 10 = .ok (.ifCond .ge 14, 3) := by decide +kernel
theorem dX6_placeOfSnapshot_13 : decode cX6_placeOfSnapshot 13 = .ok (.new 231, 3) := by decide +kernel
theorem dX6_placeOfSnapshot_16 : decode cX6_placeOfSnapshot 16 = .ok (.dup, 1) := by decide +kernel
theorem dX6_placeOfSnapshot_17 : decode cX6_placeOfSnapshot 17 = .ok (.ldc_w 308, 3) := by decide +kernel
theorem dX6_placeOfSnapshot_20 : decode cX6_placeOfSnapshot 20 = .ok (.invokespecial 235, 3) := by decide +kernel
theorem dX6_placeOfSnapshot_23 : decode cX6_placeOfSnapshot 23 = .ok (.athrow, 1) := by decide +kernel
theorem dX6_placeOfSnapshot_24 : decode cX6_placeOfSnapshot 24 = .ok (.iload_n 2, 1) := by decide +kernel
theorem dX6_placeOfSnapshot_25 : decode cX6_placeOfSnapshot 25 = .ok (.ireturn, 1) := by decide +kernel
theorem dX6_write_0 : decode cX6_write 0 = .ok (.aload_n 0, 1) := by decide +kernel
theorem dX6_write_1 : decode cX6_write 1 = .ok (.getfield 59, 3) := by decide +kernel
theorem dX6_write_4 : decode cX6_write 4 = .ok (.invokevirtual 310, 3) := by decide +kernel
theorem dX6_write_7 : decode cX6_write 7 = .ok (.ifCond .eq 5, 3) := by decide +kernel
theorem dX6_write_10 : decode cX6_write 10 = .ok (.iconst (-1), 1) := by decide +kernel
theorem dX6_write_11 : decode cX6_write 11 = .ok (.ireturn, 1) := by decide +kernel
theorem dX6_write_12 : decode cX6_write 12 = .ok (.aload_n 0, 1) := by decide +kernel
theorem dX6_write_13 : decode cX6_write 13 = .ok (.getfield 59, 3) := by decide +kernel
theorem dX6_write_16 : decode cX6_write 16 = .ok (.iload_n 1, 1) := by decide +kernel
theorem dX6_write_17 : decode cX6_write 17 = .ok (.iload_n 2, 1) := by decide +kernel
theorem dX6_write_18 : decode cX6_write 18 = .ok (.invokevirtual 314, 3) := by decide +kernel
theorem dX6_write_21 : decode cX6_write 21 = .ok (.istore_n 3, 1) := by decide +kernel
theorem dX6_write_22 : decode cX6_write 22 = .ok (.aload_n 0, 1) := by decide +kernel
theorem dX6_write_23 : decode cX6_write 23 = .ok (.getfield 36, 3) := by decide +kernel
theorem dX6_write_26 : decode cX6_write 26 = .ok (.iconst 3, 1) := by decide +kernel
theorem dX6_write_27 : decode cX6_write 27 = .ok (.iconst 1, 1) := by decide +kernel
theorem dX6_write_28 : decode cX6_write 28 = .ok (.invokevirtual 163, 3) := by decide +kernel
theorem dX6_write_31 : decode cX6_write 31 = .ok (.aload_n 0, 1) := by decide +kernel
theorem dX6_write_32 : decode cX6_write 32 = .ok (.getfield 49, 3) := by decide +kernel
theorem dX6_write_35 : decode cX6_write 35 = .ok (.getfield 223, 3) := by decide +kernel
theorem dX6_write_38 : decode cX6_write 38 = .ok (.iload_n 3, 1) := by decide +kernel
theorem dX6_write_39 : decode cX6_write 39 = .ok (.invokevirtual 317, 3) := by decide +kernel
theorem dX6_write_42 : decode cX6_write 42 = .ok (.aload_n 0, 1) := by decide +kernel
theorem dX6_write_43 : decode cX6_write 43 = .ok (.getfield 28, 3) := by decide +kernel
theorem dX6_write_46 : decode cX6_write 46 = .ok (.ifCond .le 19, 3) := by decide +kernel
theorem dX6_write_49 : decode cX6_write 49 = .ok (.iload_n 3, 1) := by decide +kernel
theorem dX6_write_50 : decode cX6_write 50 = .ok (.aload_n 0, 1) := by decide +kernel
theorem dX6_write_51 : decode cX6_write 51 = .ok (.getfield 28, 3) := by decide +kernel
theorem dX6_write_54 : decode cX6_write 54 = .ok (.irem, 1) := by decide +kernel
theorem dX6_write_55 : decode cX6_write 55 = .ok (.ifCond .ne 10, 3) := by decide +kernel
theorem dX6_write_58 : decode cX6_write 58 = .ok (.aload_n 0, 1) := by decide +kernel
theorem dX6_write_59 : decode cX6_write 59 = .ok (.getfield 49, 3) := by decide +kernel
theorem dX6_write_62 : decode cX6_write 62 = .ok (.invokevirtual 131, 3) := by decide +kernel
theorem dX6_write_65 : decode cX6_write 65 = .ok (.aload_n 0, 1) := by decide +kernel
theorem dX6_write_66 : decode cX6_write 66 = .ok (.invokevirtual 175, 3) := by decide +kernel
theorem dX6_write_69 : decode cX6_write 69 = .ok (.aload_n 0, 1) := by decide +kernel
theorem dX6_write_70 : decode cX6_write 70 = .ok (.getfield 49, 3) := by decide +kernel
theorem dX6_write_73 : decode cX6_write 73 = .ok (.getfield 134, 3) := by decide +kernel
theorem dX6_write_76 : decode cX6_write 76 = .ok (.invokevirtual 137, 3) := by decide +kernel
theorem dX6_write_79 : decode cX6_write 79 = .ok (.aload_n 0, 1) := by decide +kernel
theorem dX6_write_80 : decode cX6_write 80 = .ok (.getfield 7, 3) := by decide +kernel
theorem dX6_write_83 : decode cX6_write 83 = .ok (.if_icmp .ge 18, 3) := by decide +kernel
theorem dX6_write_86 : decode cX6_write 86 = .ok (.aload_n 0, 1) := by decide +kernel
theorem dX6_write_87 : decode cX6_write 87 = .ok (.getfield 49, 3) := by decide +kernel
theorem dX6_write_90 : decode cX6_write 90 = .ok (.getfield 223, 3) := by decide +kernel
theorem dX6_write_93 : decode cX6_write 93 = .ok (.invokevirtual 137, 3) := by decide +kernel
theorem dX6_write_96 : decode cX6_write 96 = .ok (.bipush 40, 2) := by decide +kernel
theorem dX6_write_98 : decode cX6_write 98 = .ok (.if_icmp .lt 7, 3) := by decide +kernel
theorem dX6_write_101 : decode cX6_write 101 = .ok (.aload_n 0, 1) := by decide +kernel
theorem dX6_write_102 : decode cX6_write 102 = .ok (.invokevirtual 140, 3) := by decide +kernel
theorem dX6_write_105 : decode cX6_write 105 = .ok (.iload_n 3, 1) := by decide +kernel
theorem dX6_write_106 : decode cX6_write 106 = .ok (.ireturn, 1) := by decide +kernel
theorem dX6_fillHand_0 : decode cX6_fillHand 0 = .ok (.aload_n 0, 1) := by decide +kernel
theorem dX6_fillHand_1 : decode cX6_fillHand 1 = .ok (.getfield 81, 3) := by decide +kernel
theorem dX6_fillHand_4 : decode cX6_fillHand 4 = .ok (.invokevirtual 320, 3) := by decide +kernel
theorem dX6_fillHand_7 : decode cX6_fillHand 7 = .ok (.aload_n 0, 1) := by decide +kernel
theorem dX6_fillHand_8 : decode cX6_fillHand 8 = .ok (.getfield 81, 3) := by decide +kernel
theorem dX6_fillHand_11 : decode cX6_fillHand 11 = .ok (.aload_n 0, 1) := by decide +kernel
theorem dX6_fillHand_12 : decode cX6_fillHand 12 = .ok (.getfield 49, 3) := by decide +kernel
theorem dX6_fillHand_15 : decode cX6_fillHand 15 = .ok (.getfield 223, 3) := by decide +kernel
theorem dX6_fillHand_18 : decode cX6_fillHand 18 = .ok (.iconst 0, 1) := by decide +kernel
theorem dX6_fillHand_19 : decode cX6_fillHand 19 = .ok (.aload_n 0, 1) := by decide +kernel
theorem dX6_fillHand_20 : decode cX6_fillHand 20 = .ok (.getfield 49, 3) := by decide +kernel
theorem dX6_fillHand_23 : decode cX6_fillHand 23 = .ok (.getfield 223, 3) := by decide +kernel
theorem dX6_fillHand_26 : decode cX6_fillHand 26 = .ok (.invokevirtual 137, 3) := by decide +kernel
theorem dX6_fillHand_29 : decode cX6_fillHand 29 = .ok (.invokevirtual 323, 3) := by decide +kernel
theorem dX6_fillHand_32 : decode cX6_fillHand 32 = .ok (.aload_n 0, 1) := by decide +kernel
theorem dX6_fillHand_33 : decode cX6_fillHand 33 = .ok (.getfield 81, 3) := by decide +kernel
theorem dX6_fillHand_36 : decode cX6_fillHand 36 = .ok (.invokevirtual 327, 3) := by decide +kernel
theorem dX6_fillHand_39 : decode cX6_fillHand 39 = .ok (.aload_n 0, 1) := by decide +kernel
theorem dX6_fillHand_40 : decode cX6_fillHand 40 = .ok (.getfield 49, 3) := by decide +kernel
theorem dX6_fillHand_43 : decode cX6_fillHand 43 = .ok (.getfield 134, 3) := by decide +kernel
theorem dX6_fillHand_46 : decode cX6_fillHand 46 = .ok (.aload_n 0, 1) := by decide +kernel
theorem dX6_fillHand_47 : decode cX6_fillHand 47 = .ok (.getfield 81, 3) := by decide +kernel
theorem dX6_fillHand_50 : decode cX6_fillHand 50 = .ok (.getfield 330, 3) := by decide +kernel
theorem dX6_fillHand_53 : decode cX6_fillHand 53 = .ok (.invokevirtual 333, 3) := by decide +kernel
theorem dX6_fillHand_56 : decode cX6_fillHand 56 = .ok (.return_, 1) := by decide +kernel
theorem dX6_layHand_0 : decode cX6_layHand 0 = .ok (.aload_n 0, 1) := by decide +kernel
theorem dX6_layHand_1 : decode cX6_layHand 1 = .ok (.getfield 49, 3) := by decide +kernel
theorem dX6_layHand_4 : decode cX6_layHand 4 = .ok (.getfield 134, 3) := by decide +kernel
theorem dX6_layHand_7 : decode cX6_layHand 7 = .ok (.invokevirtual 137, 3) := by decide +kernel
theorem dX6_layHand_10 : decode cX6_layHand 10 = .ok (.istore_n 1, 1) := by decide +kernel
theorem dX6_layHand_11 : decode cX6_layHand 11 = .ok (.iload_n 1, 1) := by decide +kernel
theorem dX6_layHand_12 : decode cX6_layHand 12 = .ok (.ifCond .le 38, 3) := by decide +kernel
theorem dX6_layHand_15 : decode cX6_layHand 15 = .ok (.aload_n 0, 1) := by decide +kernel
theorem dX6_layHand_16 : decode cX6_layHand 16 = .ok (.getfield 72, 3) := by decide +kernel
theorem dX6_layHand_19 : decode cX6_layHand 19 = .ok (.iconst 0, 1) := by decide +kernel
theorem dX6_layHand_20 : decode cX6_layHand 20 = .ok (.iconst 0, 1) := by decide +kernel
theorem dX6_layHand_21 : decode cX6_layHand 21 = .ok (.aload_n 0, 1) := by decide +kernel
theorem dX6_layHand_22 : decode cX6_layHand 22 = .ok (.getfield 49, 3) := by decide +kernel
theorem dX6_layHand_25 : decode cX6_layHand 25 = .ok (.getfield 134, 3) := by decide +kernel
theorem dX6_layHand_28 : decode cX6_layHand 28 = .ok (.iconst 0, 1) := by decide +kernel
theorem dX6_layHand_29 : decode cX6_layHand 29 = .ok (.iload_n 1, 1) := by decide +kernel
theorem dX6_layHand_30 : decode cX6_layHand 30 = .ok (.aload_n 0, 1) := by decide +kernel
theorem dX6_layHand_31 : decode cX6_layHand 31 = .ok (.getfield 22, 3) := by decide +kernel
theorem dX6_layHand_34 : decode cX6_layHand 34 = .ok (.aload_n 0, 1) := by decide +kernel
theorem dX6_layHand_35 : decode cX6_layHand 35 = .ok (.getfield 25, 3) := by decide +kernel
theorem dX6_layHand_38 : decode cX6_layHand 38 = .ok (.invokevirtual 337, 3) := by decide +kernel
theorem dX6_layHand_41 : decode cX6_layHand 41 = .ok (.aload_n 0, 1) := by decide +kernel
theorem dX6_layHand_42 : decode cX6_layHand 42 = .ok (.getfield 36, 3) := by decide +kernel
theorem dX6_layHand_45 : decode cX6_layHand 45 = .ok (.iconst 5, 1) := by decide +kernel
theorem dX6_layHand_46 : decode cX6_layHand 46 = .ok (.iload_n 1, 1) := by decide +kernel
theorem dX6_layHand_47 : decode cX6_layHand 47 = .ok (.invokevirtual 163, 3) := by decide +kernel
theorem dX6_layHand_50 : decode cX6_layHand 50 = .ok (.aload_n 0, 1) := by decide +kernel
theorem dX6_layHand_51 : decode cX6_layHand 51 = .ok (.getfield 49, 3) := by decide +kernel
theorem dX6_layHand_54 : decode cX6_layHand 54 = .ok (.invokevirtual 341, 3) := by decide +kernel
theorem dX6_layHand_57 : decode cX6_layHand 57 = .ok (.return_, 1) := by decide +kernel
theorem dX6_settle_0 : decode cX6_settle 0 = .ok (.iconst 0, 1) := by decide +kernel
theorem dX6_settle_1 : decode cX6_settle 1 = .ok (.istore_n 1, 1) := by decide +kernel
theorem dX6_settle_2 : decode cX6_settle 2 = .ok (.iload_n 1, 1) := by decide +kernel
theorem dX6_settle_3 : decode cX6_settle 3 = .ok (.ldc_w 344, 3) := by decide +kernel
theorem dX6_settle_6 : decode cX6_settle 6 = .ok (.if_icmp .ge 111, 3) := by decide +kernel
theorem dX6_settle_9 : decode cX6_settle 9 = .ok (.aload_n 0, 1) := by decide +kernel
theorem dX6_settle_10 : decode cX6_settle 10 = .ok (.invokevirtual 345, 3) := by decide +kernel
theorem dX6_settle_13 : decode cX6_settle 13 = .ok (.istore_n 2, 1) := by decide +kernel
theorem dX6_settle_14 : decode cX6_settle 14 = .ok (.iload_n 2, 1) := by decide +kernel
theorem dX6_settle_15 : decode cX6_settle 15 = .ok (.ifCond .ge 4, 3) := by decide +kernel
theorem dX6_settle_18 : decode cX6_settle 18 = .ok (.return_, 1) := by decide +kernel
theorem dX6_settle_19 : decode cX6_settle 19 = .ok (.aload_n 0, 1) := by decide +kernel
theorem dX6_settle_20 : decode cX6_settle 20 = .ok (.getfield 81, 3) := by decide +kernel
theorem dX6_settle_23 : decode cX6_settle 23 = .ok (.invokevirtual 320, 3) := by decide +kernel
theorem dX6_settle_26 : decode cX6_settle 26 = .ok (.aload_n 0, 1) := by decide +kernel
theorem dX6_settle_27 : decode cX6_settle 27 = .ok (.getfield 13, 3) := by decide +kernel
theorem dX6_settle_30 : decode cX6_settle 30 = .ok (.ifCond .ne 11, 3) := by decide +kernel
theorem dX6_settle_33 : decode cX6_settle 33 = .ok (.aload_n 0, 1) := by decide +kernel
theorem dX6_settle_34 : decode cX6_settle 34 = .ok (.iload_n 2, 1) := by decide +kernel
theorem dX6_settle_35 : decode cX6_settle 35 = .ok (.invokevirtual 348, 3) := by decide +kernel
theorem dX6_settle_38 : decode cX6_settle 38 = .ok (.goto 8, 3) := by decide +kernel
theorem dX6_settle_41 : decode cX6_settle 41 = .ok (.aload_n 0, 1) := by decide +kernel
theorem dX6_settle_42 : decode cX6_settle 42 = .ok (.iload_n 2, 1) := by decide +kernel
theorem dX6_settle_43 : decode cX6_settle 43 = .ok (.invokevirtual 351, 3) := by decide +kernel
theorem dX6_settle_46 : decode cX6_settle 46 = .ok (.istore_n 3, 1) := by decide +kernel
theorem dX6_settle_47 : decode cX6_settle 47 = .ok (.aload_n 0, 1) := by decide +kernel
theorem dX6_settle_48 : decode cX6_settle 48 = .ok (.getfield 81, 3) := by decide +kernel
theorem dX6_settle_51 : decode cX6_settle 51 = .ok (.invokevirtual 327, 3) := by decide +kernel
theorem dX6_settle_54 : decode cX6_settle 54 = .ok (.aload_n 0, 1) := by decide +kernel
theorem dX6_settle_55 : decode cX6_settle 55 = .ok (.getfield 81, 3) := by decide +kernel
theorem dX6_settle_58 : decode cX6_settle 58 = .ok (.aload_n 0, 1) := by decide +kernel
theorem dX6_settle_59 : decode cX6_settle 59 = .ok (.getfield 72, 3) := by decide +kernel
theorem dX6_settle_62 : decode cX6_settle 62 = .ok (.getfield 247, 3) := by decide +kernel
theorem dX6_settle_65 : decode cX6_settle 65 = .ok (.aload_n 0, 1) := by decide +kernel
theorem dX6_settle_66 : decode cX6_settle 66 = .ok (.getfield 72, 3) := by decide +kernel
theorem dX6_settle_69 : decode cX6_settle 69 = .ok (.aload_n 0, 1) := by decide +kernel
theorem dX6_settle_70 : decode cX6_settle 70 = .ok (.getfield 72, 3) := by decide +kernel
theorem dX6_settle_73 : decode cX6_settle 73 = .ok (.iload_n 2, 1) := by decide +kernel
theorem dX6_settle_74 : decode cX6_settle 74 = .ok (.iconst 1, 1) := by decide +kernel
theorem dX6_settle_75 : decode cX6_settle 75 = .ok (.iadd, 1) := by decide +kernel
theorem dX6_settle_76 : decode cX6_settle 76 = .ok (.invokevirtual 153, 3) := by decide +kernel
theorem dX6_settle_79 : decode cX6_settle 79 = .ok (.invokevirtual 354, 3) := by decide +kernel
theorem dX6_settle_82 : decode cX6_settle 82 = .ok (.invokevirtual 356, 3) := by decide +kernel
theorem dX6_settle_85 : decode cX6_settle 85 = .ok (.aload_n 0, 1) := by decide +kernel
theorem dX6_settle_86 : decode cX6_settle 86 = .ok (.getfield 36, 3) := by decide +kernel
theorem dX6_settle_89 : decode cX6_settle 89 = .ok (.iconst 4, 1) := by decide +kernel
theorem dX6_settle_90 : decode cX6_settle 90 = .ok (.iconst 1, 1) := by decide +kernel
theorem dX6_settle_91 : decode cX6_settle 91 = .ok (.invokevirtual 163, 3) := by decide +kernel
theorem dX6_settle_94 : decode cX6_settle 94 = .ok (.aload_n 0, 1) := by decide +kernel
theorem dX6_settle_95 : decode cX6_settle 95 = .ok (.iload_n 2, 1) := by decide +kernel
theorem dX6_settle_96 : decode cX6_settle 96 = .ok (.iconst 3, 1) := by decide +kernel
theorem dX6_settle_97 : decode cX6_settle 97 = .ok (.if_icmp .ge 9, 3) := by decide +kernel
theorem dX6_settle_100 : decode cX6_settle 100 = .ok (.iload_n 2, 1) := by decide +kernel
theorem dX6_settle_101 : decode cX6_settle 101 = .ok (.iconst 1, 1) := by decide +kernel
theorem dX6_settle_102 : decode cX6_settle 102 = .ok (.iadd, 1) := by decide +kernel
theorem dX6_settle_103 : decode cX6_settle 103 = .ok (.goto 4, 3) := by decide +kernel
theorem dX6_settle_106 : decode cX6_settle 106 = .ok (.iconst 3, 1) := by decide +kernel
theorem dX6_settle_107 : decode cX6_settle 107 = .ok (.iload_n 3, 1) := by decide +kernel
theorem dX6_settle_108 : decode cX6_settle 108 = .ok (.invokevirtual 166, 3) := by decide +kernel
theorem dX6_settle_111 : decode cX6_settle 111 = .ok (.iinc 1 1, 3) := by decide +kernel
theorem dX6_settle_114 : decode cX6_settle 114 = .ok (.goto (-112), 3) := by decide +kernel
theorem dX6_settle_117 : decode cX6_settle 117 = .ok (.return_, 1) := by decide +kernel
theorem dX6_firstFull_0 : decode cX6_firstFull 0 = .ok (.iconst 0, 1) := by decide +kernel
theorem dX6_firstFull_1 : decode cX6_firstFull 1 = .ok (.istore_n 1, 1) := by decide +kernel
theorem dX6_firstFull_2 : decode cX6_firstFull 2 = .ok (.iload_n 1, 1) := by decide +kernel
theorem dX6_firstFull_3 : decode cX6_firstFull 3 = .ok (.iconst 4, 1) := by decide +kernel
theorem dX6_firstFull_4 : decode cX6_firstFull 4 = .ok (.if_icmp .ge 19, 3) := by decide +kernel
theorem dX6_firstFull_7 : decode cX6_firstFull 7 = .ok (.aload_n 0, 1) := by decide +kernel
theorem dX6_firstFull_8 : decode cX6_firstFull 8 = .ok (.iload_n 1, 1) := by decide +kernel
theorem dX6_firstFull_9 : decode cX6_firstFull 9 = .ok (.invokevirtual 360, 3) := by decide +kernel
theorem dX6_firstFull_12 : decode cX6_firstFull 12 = .ok (.ifCond .eq 5, 3) := by decide +kernel
theorem dX6_firstFull_15 : decode cX6_firstFull 15 = .ok (.iload_n 1, 1) := by decide +kernel
theorem dX6_firstFull_16 : decode cX6_firstFull 16 = .ok (.ireturn, 1) := by decide +kernel
theorem dX6_firstFull_17 : decode cX6_firstFull 17 = .ok (.iinc 1 1, 3) := by decide +kernel
theorem dX6_firstFull_20 : decode cX6_firstFull 20 = .ok (.goto (-18), 3) := by decide +kernel
theorem dX6_firstFull_23 : decode cX6_firstFull 23 = .ok (.iconst (-1), 1) := by decide +kernel
theorem dX6_firstFull_24 : decode cX6_firstFull 24 = .ok (.ireturn, 1) := by decide +kernel
theorem dX6_isFull_0 : decode cX6_isFull 0 = .ok (.aload_n 0, 1) := by decide +kernel
theorem dX6_isFull_1 : decode cX6_isFull 1 = .ok (.getfield 13, 3) := by decide +kernel
theorem dX6_isFull_4 : decode cX6_isFull 4 = .ok (.ifCond .eq 7, 3) := by decide +kernel
theorem dX6_isFull_7 : decode cX6_isFull 7 = .ok (.iload_n 1, 1) := by decide +kernel
theorem dX6_isFull_8 : decode cX6_isFull 8 = .ok (.ifCond .ne 24, 3) := by decide +kernel
theorem dX6_isFull_11 : decode cX6_isFull 11 = .ok (.aload_n 0, 1) := by decide +kernel
theorem dX6_isFull_12 : decode cX6_isFull 12 = .ok (.getfield 72, 3) := by decide +kernel
theorem dX6_isFull_15 : decode cX6_isFull 15 = .ok (.iload_n 1, 1) := by decide +kernel
theorem dX6_isFull_16 : decode cX6_isFull 16 = .ok (.invokevirtual 156, 3) := by decide +kernel
theorem dX6_isFull_19 : decode cX6_isFull 19 = .ok (.aload_n 0, 1) := by decide +kernel
theorem dX6_isFull_20 : decode cX6_isFull 20 = .ok (.getfield 16, 3) := by decide +kernel
theorem dX6_isFull_23 : decode cX6_isFull 23 = .ok (.if_icmp .lt 7, 3) := by decide +kernel
theorem dX6_isFull_26 : decode cX6_isFull 26 = .ok (.iconst 1, 1) := by decide +kernel
theorem dX6_isFull_27 : decode cX6_isFull 27 = .ok (.goto 4, 3) := by decide +kernel
theorem dX6_isFull_30 : decode cX6_isFull 30 = .ok (.iconst 0, 1) := by decide +kernel
theorem dX6_isFull_31 : decode cX6_isFull 31 = .ok (.ireturn, 1) := by decide +kernel
theorem dX6_isFull_32 : decode cX6_isFull 32 = .ok (.iload_n 1, 1) := by decide +kernel
theorem dX6_isFull_33 : decode cX6_isFull 33 = .ok (.iconst 3, 1) := by decide +kernel
theorem dX6_isFull_34 : decode cX6_isFull 34 = .ok (.if_icmp .ne 5, 3) := by decide +kernel
theorem dX6_isFull_37 : decode cX6_isFull 37 = .ok (.iconst 0, 1) := by decide +kernel
theorem dX6_isFull_38 : decode cX6_isFull 38 = .ok (.ireturn, 1) := by decide +kernel
theorem dX6_isFull_39 : decode cX6_isFull 39 = .ok (.aload_n 0, 1) := by decide +kernel
theorem dX6_isFull_40 : decode cX6_isFull 40 = .ok (.getfield 72, 3) := by decide +kernel
theorem dX6_isFull_43 : decode cX6_isFull 43 = .ok (.iload_n 1, 1) := by decide +kernel
theorem dX6_isFull_44 : decode cX6_isFull 44 = .ok (.invokevirtual 362, 3) := by decide +kernel
theorem dX6_isFull_47 : decode cX6_isFull 47 = .ok (.aload_n 0, 1) := by decide +kernel
theorem dX6_isFull_48 : decode cX6_isFull 48 = .ok (.getfield 19, 3) := by decide +kernel
theorem dX6_isFull_51 : decode cX6_isFull 51 = .ok (.iload_n 1, 1) := by decide +kernel
theorem dX6_isFull_52 : decode cX6_isFull 52 = .ok (.iconst 1, 1) := by decide +kernel
theorem dX6_isFull_53 : decode cX6_isFull 53 = .ok (.if_icmp .ne 10, 3) := by decide +kernel
theorem dX6_isFull_56 : decode cX6_isFull 56 = .ok (.aload_n 0, 1) := by decide +kernel
theorem dX6_isFull_57 : decode cX6_isFull 57 = .ok (.getfield 16, 3) := by decide +kernel
theorem dX6_isFull_60 : decode cX6_isFull 60 = .ok (.goto 12, 3) := by decide +kernel
theorem dX6_isFull_63 : decode cX6_isFull 63 = .ok (.aload_n 0, 1) := by decide +kernel
theorem dX6_isFull_64 : decode cX6_isFull 64 = .ok (.getfield 16, 3) := by decide +kernel
theorem dX6_isFull_67 : decode cX6_isFull 67 = .ok (.aload_n 0, 1) := by decide +kernel
theorem dX6_isFull_68 : decode cX6_isFull 68 = .ok (.getfield 16, 3) := by decide +kernel
theorem dX6_isFull_71 : decode cX6_isFull 71 = .ok (.imul, 1) := by decide +kernel
theorem dX6_isFull_72 : decode cX6_isFull 72 = .ok (.imul, 1) := by decide +kernel
theorem dX6_isFull_73 : decode cX6_isFull 73 = .ok (.if_icmp .le 7, 3) := by decide +kernel
theorem dX6_isFull_76 : decode cX6_isFull 76 = .ok (.iconst 1, 1) := by decide +kernel
theorem dX6_isFull_77 : decode cX6_isFull 77 = .ok (.goto 4, 3) := by decide +kernel
theorem dX6_isFull_80 : decode cX6_isFull 80 = .ok (.iconst 0, 1) := by decide +kernel
theorem dX6_isFull_81 : decode cX6_isFull 81 = .ok (.ireturn, 1) := by decide +kernel
theorem dX6_takeLevel_0 : decode cX6_takeLevel 0 = .ok (.aload_n 0, 1) := by decide +kernel
theorem dX6_takeLevel_1 : decode cX6_takeLevel 1 = .ok (.iload_n 1, 1) := by decide +kernel
theorem dX6_takeLevel_2 : decode cX6_takeLevel 2 = .ok (.iconst 0, 1) := by decide +kernel
theorem dX6_takeLevel_3 : decode cX6_takeLevel 3 = .ok (.aload_n 0, 1) := by decide +kernel
theorem dX6_takeLevel_4 : decode cX6_takeLevel 4 = .ok (.getfield 72, 3) := by decide +kernel
theorem dX6_takeLevel_7 : decode cX6_takeLevel 7 = .ok (.iload_n 1, 1) := by decide +kernel
theorem dX6_takeLevel_8 : decode cX6_takeLevel 8 = .ok (.invokevirtual 156, 3) := by decide +kernel
theorem dX6_takeLevel_11 : decode cX6_takeLevel 11 = .ok (.invokevirtual 365, 3) := by decide +kernel
theorem dX6_takeLevel_14 : decode cX6_takeLevel 14 = .ok (.iconst 0, 1) := by decide +kernel
theorem dX6_takeLevel_15 : decode cX6_takeLevel 15 = .ok (.ireturn, 1) := by decide +kernel
theorem dX6_takePart_0 : decode cX6_takePart 0 = .ok (.iconst 0, 1) := by decide +kernel
theorem dX6_takePart_1 : decode cX6_takePart 1 = .ok (.istore_n 2, 1) := by decide +kernel
theorem dX6_takePart_2 : decode cX6_takePart 2 = .ok (.aload_n 0, 1) := by decide +kernel
theorem dX6_takePart_3 : decode cX6_takePart 3 = .ok (.getfield 72, 3) := by decide +kernel
theorem dX6_takePart_6 : decode cX6_takePart 6 = .ok (.iload_n 1, 1) := by decide +kernel
theorem dX6_takePart_7 : decode cX6_takePart 7 = .ok (.invokevirtual 156, 3) := by decide +kernel
theorem dX6_takePart_10 : decode cX6_takePart 10 = .ok (.istore_n 3, 1) := by decide +kernel
theorem dX6_takePart_11 : decode cX6_takePart 11 = .ok (.iload_n 1, 1) := by decide +kernel
theorem dX6_takePart_12 : decode cX6_takePart 12 = .ok (.ifCond .le 38, 3) := by decide +kernel
theorem dX6_takePart_15 : decode cX6_takePart 15 = .ok (.aload_n 0, 1) := by decide +kernel
theorem dX6_takePart_16 : decode cX6_takePart 16 = .ok (.getfield 72, 3) := by decide +kernel
theorem dX6_takePart_19 : decode cX6_takePart 19 = .ok (.iload_n 1, 1) := by decide +kernel
theorem dX6_takePart_20 : decode cX6_takePart 20 = .ok (.aload_n 0, 1) := by decide +kernel
theorem dX6_takePart_21 : decode cX6_takePart 21 = .ok (.getfield 43, 3) := by decide +kernel
theorem dX6_takePart_24 : decode cX6_takePart 24 = .ok (.iload_n 1, 1) := by decide +kernel
theorem dX6_takePart_25 : decode cX6_takePart 25 = .ok (.invokevirtual 211, 3) := by decide +kernel
theorem dX6_takePart_28 : decode cX6_takePart 28 = .ok (.invokevirtual 368, 3) := by decide +kernel
theorem dX6_takePart_31 : decode cX6_takePart 31 = .ok (.istore 4, 2) := by decide +kernel
theorem dX6_takePart_33 : decode cX6_takePart 33 = .ok (.iload 4, 2) := by decide +kernel
theorem dX6_takePart_35 : decode cX6_takePart 35 = .ok (.iload_n 3, 1) := by decide +kernel
theorem dX6_takePart_36 : decode cX6_takePart 36 = .ok (.if_icmp .ge 8, 3) := by decide +kernel
theorem dX6_takePart_39 : decode cX6_takePart 39 = .ok (.iload 4, 2) := by decide +kernel
theorem dX6_takePart_41 : decode cX6_takePart 41 = .ok (.goto 4, 3) := by decide +kernel
theorem dX6_takePart_44 : decode cX6_takePart 44 = .ok (.iconst 0, 1) := by decide +kernel
theorem dX6_takePart_45 : decode cX6_takePart 45 = .ok (.istore_n 2, 1) := by decide +kernel
theorem dX6_takePart_46 : decode cX6_takePart 46 = .ok (.iload_n 2, 1) := by decide +kernel
theorem dX6_takePart_47 : decode cX6_takePart 47 = .ok (.iconst 1, 1) := by decide +kernel
theorem dX6_takePart_48 : decode cX6_takePart 48 = .ok (.iadd, 1) := by decide +kernel
theorem dX6_takePart_49 : decode cX6_takePart 49 = .ok (.istore_n 3, 1) := by decide +kernel
theorem dX6_takePart_50 : decode cX6_takePart 50 = .ok (.aload_n 0, 1) := by decide +kernel
theorem dX6_takePart_51 : decode cX6_takePart 51 = .ok (.getfield 72, 3) := by decide +kernel
theorem dX6_takePart_54 : decode cX6_takePart 54 = .ok (.iload_n 1, 1) := by decide +kernel
theorem dX6_takePart_55 : decode cX6_takePart 55 = .ok (.invokevirtual 153, 3) := by decide +kernel
theorem dX6_takePart_58 : decode cX6_takePart 58 = .ok (.istore 4, 2) := by decide +kernel
theorem dX6_takePart_60 : decode cX6_takePart 60 = .ok (.aload_n 0, 1) := by decide +kernel
theorem dX6_takePart_61 : decode cX6_takePart 61 = .ok (.getfield 72, 3) := by decide +kernel
theorem dX6_takePart_64 : decode cX6_takePart 64 = .ok (.iload 4, 2) := by decide +kernel
theorem dX6_takePart_66 : decode cX6_takePart 66 = .ok (.iload_n 2, 1) := by decide +kernel
theorem dX6_takePart_67 : decode cX6_takePart 67 = .ok (.iadd, 1) := by decide +kernel
theorem dX6_takePart_68 : decode cX6_takePart 68 = .ok (.iload 4, 2) := by decide +kernel
theorem dX6_takePart_70 : decode cX6_takePart 70 = .ok (.iload_n 3, 1) := by decide +kernel
theorem dX6_takePart_71 : decode cX6_takePart 71 = .ok (.iadd, 1) := by decide +kernel
theorem dX6_takePart_72 : decode cX6_takePart 72 = .ok (.invokevirtual 371, 3) := by decide +kernel
theorem dX6_takePart_75 : decode cX6_takePart 75 = .ok (.istore 5, 2) := by decide +kernel
theorem dX6_takePart_77 : decode cX6_takePart 77 = .ok (.aload_n 0, 1) := by decide +kernel
theorem dX6_takePart_78 : decode cX6_takePart 78 = .ok (.getfield 72, 3) := by decide +kernel
theorem dX6_takePart_81 : decode cX6_takePart 81 = .ok (.iload 4, 2) := by decide +kernel
theorem dX6_takePart_83 : decode cX6_takePart 83 = .ok (.iload_n 2, 1) := by decide +kernel
theorem dX6_takePart_84 : decode cX6_takePart 84 = .ok (.iadd, 1) := by decide +kernel
theorem dX6_takePart_85 : decode cX6_takePart 85 = .ok (.iload 4, 2) := by decide +kernel
theorem dX6_takePart_87 : decode cX6_takePart 87 = .ok (.iload_n 3, 1) := by decide +kernel
theorem dX6_takePart_88 : decode cX6_takePart 88 = .ok (.iadd, 1) := by decide +kernel
theorem dX6_takePart_89 : decode cX6_takePart 89 = .ok (.invokevirtual 374, 3) := by decide +kernel
theorem dX6_takePart_92 : decode cX6_takePart 92 = .ok (.istore 6, 2) := by decide +kernel
theorem dX6_takePart_94 : decode cX6_takePart 94 = .ok (.iload_n 1, 1) := by decide +kernel
theorem dX6_takePart_95 : decode cX6_takePart 95 = .ok (.ifCond .le 13, 3) := by decide +kernel
theorem dX6_takePart_98 : decode cX6_takePart 98 = .ok (.aload_n 0, 1) := by decide +kernel
theorem dX6_takePart_99 : decode cX6_takePart 99 = .ok (.getfield 43, 3) := by decide +kernel
theorem dX6_takePart_102 : decode cX6_takePart 102 = .ok (.iload_n 1, 1) := by decide +kernel
theorem dX6_takePart_103 : decode cX6_takePart 103 = .ok (.iload 6, 2) := by decide +kernel
theorem dX6_takePart_105 : decode cX6_takePart 105 = .ok (.invokevirtual 85, 3) := by decide +kernel
theorem dX6_takePart_108 : decode cX6_takePart 108 = .ok (.aload_n 0, 1) := by decide +kernel
theorem dX6_takePart_109 : decode cX6_takePart 109 = .ok (.getfield 72, 3) := by decide +kernel
theorem dX6_takePart_112 : decode cX6_takePart 112 = .ok (.iload_n 1, 1) := by decide +kernel
theorem dX6_takePart_113 : decode cX6_takePart 113 = .ok (.iconst 1, 1) := by decide +kernel
theorem dX6_takePart_114 : decode cX6_takePart 114 = .ok (.iadd, 1) := by decide +kernel
theorem dX6_takePart_115 : decode cX6_takePart 115 = .ok (.iload 5, 2) := by decide +kernel
theorem dX6_takePart_117 : decode cX6_takePart 117 = .ok (.invokevirtual 377, 3) := by decide +kernel
theorem dX6_takePart_120 : decode cX6_takePart 120 = .ok (.istore 7, 2) := by decide +kernel
theorem dX6_takePart_122 : decode cX6_takePart 122 = .ok (.aload_n 0, 1) := by decide +kernel
theorem dX6_takePart_123 : decode cX6_takePart 123 = .ok (.getfield 72, 3) := by decide +kernel
theorem dX6_takePart_126 : decode cX6_takePart 126 = .ok (.iload_n 1, 1) := by decide +kernel
theorem dX6_takePart_127 : decode cX6_takePart 127 = .ok (.iconst 1, 1) := by decide +kernel
theorem dX6_takePart_128 : decode cX6_takePart 128 = .ok (.iadd, 1) := by decide +kernel
theorem dX6_takePart_129 : decode cX6_takePart 129 = .ok (.iload 6, 2) := by decide +kernel
theorem dX6_takePart_131 : decode cX6_takePart 131 = .ok (.invokevirtual 368, 3) := by decide +kernel
theorem dX6_takePart_134 : decode cX6_takePart 134 = .ok (.istore 8, 2) := by decide +kernel
theorem dX6_takePart_136 : decode cX6_takePart 136 = .ok (.aload_n 0, 1) := by decide +kernel
theorem dX6_takePart_137 : decode cX6_takePart 137 = .ok (.iload_n 1, 1) := by decide +kernel
theorem dX6_takePart_138 : decode cX6_takePart 138 = .ok (.iload_n 2, 1) := by decide +kernel
theorem dX6_takePart_139 : decode cX6_takePart 139 = .ok (.iload_n 3, 1) := by decide +kernel
theorem dX6_takePart_140 : decode cX6_takePart 140 = .ok (.invokevirtual 365, 3) := by decide +kernel
theorem dX6_takePart_143 : decode cX6_takePart 143 = .ok (.aload_n 0, 1) := by decide +kernel
theorem dX6_takePart_144 : decode cX6_takePart 144 = .ok (.iload_n 1, 1) := by decide +kernel
theorem dX6_takePart_145 : decode cX6_takePart 145 = .ok (.iconst 1, 1) := by decide +kernel
theorem dX6_takePart_146 : decode cX6_takePart 146 = .ok (.iadd, 1) := by decide +kernel
theorem dX6_takePart_147 : decode cX6_takePart 147 = .ok (.iload 7, 2) := by decide +kernel
theorem dX6_takePart_149 : decode cX6_takePart 149 = .ok (.iload 8, 2) := by decide +kernel
theorem dX6_takePart_151 : decode cX6_takePart 151 = .ok (.invokevirtual 365, 3) := by decide +kernel
theorem dX6_takePart_154 : decode cX6_takePart 154 = .ok (.iload 7, 2) := by decide +kernel
theorem dX6_takePart_156 : decode cX6_takePart 156 = .ok (.ireturn, 1) := by decide +kernel
theorem dX6_takeRuns_0 : decode cX6_takeRuns 0 = .ok (.aload_n 0, 1) := by decide +kernel
theorem dX6_takeRuns_1 : decode cX6_takeRuns 1 = .ok (.getfield 72, 3) := by decide +kernel
theorem dX6_takeRuns_4 : decode cX6_takeRuns 4 = .ok (.iload_n 1, 1) := by decide +kernel
theorem dX6_takeRuns_5 : decode cX6_takeRuns 5 = .ok (.invokevirtual 153, 3) := by decide +kernel
theorem dX6_takeRuns_8 : decode cX6_takeRuns 8 = .ok (.istore 4, 2) := by decide +kernel
theorem dX6_takeRuns_10 : decode cX6_takeRuns 10 = .ok (.aload_n 0, 1) := by decide +kernel
theorem dX6_takeRuns_11 : decode cX6_takeRuns 11 = .ok (.getfield 81, 3) := by decide +kernel
theorem dX6_takeRuns_14 : decode cX6_takeRuns 14 = .ok (.aload_n 0, 1) := by decide +kernel
theorem dX6_takeRuns_15 : decode cX6_takeRuns 15 = .ok (.getfield 72, 3) := by decide +kernel
theorem dX6_takeRuns_18 : decode cX6_takeRuns 18 = .ok (.getfield 247, 3) := by decide +kernel
theorem dX6_takeRuns_21 : decode cX6_takeRuns 21 = .ok (.aload_n 0, 1) := by decide +kernel
theorem dX6_takeRuns_22 : decode cX6_takeRuns 22 = .ok (.getfield 72, 3) := by decide +kernel
theorem dX6_takeRuns_25 : decode cX6_takeRuns 25 = .ok (.iload 4, 2) := by decide +kernel
theorem dX6_takeRuns_27 : decode cX6_takeRuns 27 = .ok (.iload_n 2, 1) := by decide +kernel
theorem dX6_takeRuns_28 : decode cX6_takeRuns 28 = .ok (.iadd, 1) := by decide +kernel
theorem dX6_takeRuns_29 : decode cX6_takeRuns 29 = .ok (.invokevirtual 354, 3) := by decide +kernel
theorem dX6_takeRuns_32 : decode cX6_takeRuns 32 = .ok (.aload_n 0, 1) := by decide +kernel
theorem dX6_takeRuns_33 : decode cX6_takeRuns 33 = .ok (.getfield 72, 3) := by decide +kernel
theorem dX6_takeRuns_36 : decode cX6_takeRuns 36 = .ok (.iload 4, 2) := by decide +kernel
theorem dX6_takeRuns_38 : decode cX6_takeRuns 38 = .ok (.iload_n 3, 1) := by decide +kernel
theorem dX6_takeRuns_39 : decode cX6_takeRuns 39 = .ok (.iadd, 1) := by decide +kernel
theorem dX6_takeRuns_40 : decode cX6_takeRuns 40 = .ok (.invokevirtual 354, 3) := by decide +kernel
theorem dX6_takeRuns_43 : decode cX6_takeRuns 43 = .ok (.invokevirtual 323, 3) := by decide +kernel
theorem dX6_takeRuns_46 : decode cX6_takeRuns 46 = .ok (.aload_n 0, 1) := by decide +kernel
theorem dX6_takeRuns_47 : decode cX6_takeRuns 47 = .ok (.getfield 72, 3) := by decide +kernel
theorem dX6_takeRuns_50 : decode cX6_takeRuns 50 = .ok (.iload_n 1, 1) := by decide +kernel
theorem dX6_takeRuns_51 : decode cX6_takeRuns 51 = .ok (.iload_n 2, 1) := by decide +kernel
theorem dX6_takeRuns_52 : decode cX6_takeRuns 52 = .ok (.iload_n 3, 1) := by decide +kernel
theorem dX6_takeRuns_53 : decode cX6_takeRuns 53 = .ok (.invokevirtual 159, 3) := by decide +kernel
theorem dX6_takeRuns_56 : decode cX6_takeRuns 56 = .ok (.return_, 1) := by decide +kernel
theorem dX6_firstPacked_0 : decode cX6_firstPacked 0 = .ok (.aload_n 0, 1) := by decide +kernel
theorem dX6_firstPacked_1 : decode cX6_firstPacked 1 = .ok (.getfield 13, 3) := by decide +kernel
theorem dX6_firstPacked_4 : decode cX6_firstPacked 4 = .ok (.ifCond .ne 7, 3) := by decide +kernel
theorem dX6_firstPacked_7 : decode cX6_firstPacked 7 = .ok (.iload_n 1, 1) := by decide +kernel
theorem dX6_firstPacked_8 : decode cX6_firstPacked 8 = .ok (.goto 4, 3) := by decide +kernel
theorem dX6_firstPacked_11 : decode cX6_firstPacked 11 = .ok (.iconst 0, 1) := by decide +kernel
theorem dX6_firstPacked_12 : decode cX6_firstPacked 12 = .ok (.ireturn, 1) := by decide +kernel
theorem dX6_planPack_0 : decode cX6_planPack 0 = .ok (.aload_n 0, 1) := by decide +kernel
theorem dX6_planPack_1 : decode cX6_planPack 1 = .ok (.getfield 72, 3) := by decide +kernel
theorem dX6_planPack_4 : decode cX6_planPack 4 = .ok (.aload_n 0, 1) := by decide +kernel
theorem dX6_planPack_5 : decode cX6_planPack 5 = .ok (.getfield 72, 3) := by decide +kernel
theorem dX6_planPack_8 : decode cX6_planPack 8 = .ok (.aload_n 0, 1) := by decide +kernel
theorem dX6_planPack_9 : decode cX6_planPack 9 = .ok (.iload_n 1, 1) := by decide +kernel
theorem dX6_planPack_10 : decode cX6_planPack 10 = .ok (.invokevirtual 150, 3) := by decide +kernel
theorem dX6_planPack_13 : decode cX6_planPack 13 = .ok (.invokevirtual 153, 3) := by decide +kernel
theorem dX6_planPack_16 : decode cX6_planPack 16 = .ok (.invokevirtual 354, 3) := by decide +kernel
theorem dX6_planPack_19 : decode cX6_planPack 19 = .ok (.istore_n 2, 1) := by decide +kernel
theorem dX6_planPack_20 : decode cX6_planPack 20 = .ok (.aload_n 0, 1) := by decide +kernel
theorem dX6_planPack_21 : decode cX6_planPack 21 = .ok (.getfield 72, 3) := by decide +kernel
theorem dX6_planPack_24 : decode cX6_planPack 24 = .ok (.getfield 247, 3) := by decide +kernel
theorem dX6_planPack_27 : decode cX6_planPack 27 = .ok (.invokevirtual 137, 3) := by decide +kernel
theorem dX6_planPack_30 : decode cX6_planPack 30 = .ok (.istore_n 3, 1) := by decide +kernel
theorem dX6_planPack_31 : decode cX6_planPack 31 = .ok (.aload_n 0, 1) := by decide +kernel
theorem dX6_planPack_32 : decode cX6_planPack 32 = .ok (.getfield 81, 3) := by decide +kernel
theorem dX6_planPack_35 : decode cX6_planPack 35 = .ok (.invokevirtual 320, 3) := by decide +kernel
theorem dX6_planPack_38 : decode cX6_planPack 38 = .ok (.aload_n 0, 1) := by decide +kernel
theorem dX6_planPack_39 : decode cX6_planPack 39 = .ok (.getfield 81, 3) := by decide +kernel
theorem dX6_planPack_42 : decode cX6_planPack 42 = .ok (.aload_n 0, 1) := by decide +kernel
theorem dX6_planPack_43 : decode cX6_planPack 43 = .ok (.getfield 72, 3) := by decide +kernel
theorem dX6_planPack_46 : decode cX6_planPack 46 = .ok (.getfield 247, 3) := by decide +kernel
theorem dX6_planPack_49 : decode cX6_planPack 49 = .ok (.iload_n 2, 1) := by decide +kernel
theorem dX6_planPack_50 : decode cX6_planPack 50 = .ok (.iload_n 3, 1) := by decide +kernel
theorem dX6_planPack_51 : decode cX6_planPack 51 = .ok (.invokevirtual 323, 3) := by decide +kernel
theorem dX6_planPack_54 : decode cX6_planPack 54 = .ok (.aload_n 0, 1) := by decide +kernel
theorem dX6_planPack_55 : decode cX6_planPack 55 = .ok (.getfield 81, 3) := by decide +kernel
theorem dX6_planPack_58 : decode cX6_planPack 58 = .ok (.invokevirtual 327, 3) := by decide +kernel
theorem dX6_planPack_61 : decode cX6_planPack 61 = .ok (.aload_n 0, 1) := by decide +kernel
theorem dX6_planPack_62 : decode cX6_planPack 62 = .ok (.getfield 81, 3) := by decide +kernel
theorem dX6_planPack_65 : decode cX6_planPack 65 = .ok (.aload_n 0, 1) := by decide +kernel
theorem dX6_planPack_66 : decode cX6_planPack 66 = .ok (.getfield 72, 3) := by decide +kernel
theorem dX6_planPack_69 : decode cX6_planPack 69 = .ok (.getfield 247, 3) := by decide +kernel
theorem dX6_planPack_72 : decode cX6_planPack 72 = .ok (.iload_n 3, 1) := by decide +kernel
theorem dX6_planPack_73 : decode cX6_planPack 73 = .ok (.invokevirtual 356, 3) := by decide +kernel
theorem dX6_planPack_76 : decode cX6_planPack 76 = .ok (.iload_n 3, 1) := by decide +kernel
theorem dX6_planPack_77 : decode cX6_planPack 77 = .ok (.iload_n 2, 1) := by decide +kernel
theorem dX6_planPack_78 : decode cX6_planPack 78 = .ok (.isub, 1) := by decide +kernel
theorem dX6_planPack_79 : decode cX6_planPack 79 = .ok (.aload_n 0, 1) := by decide +kernel
theorem dX6_planPack_80 : decode cX6_planPack 80 = .ok (.getfield 81, 3) := by decide +kernel
theorem dX6_planPack_83 : decode cX6_planPack 83 = .ok (.getfield 330, 3) := by decide +kernel
theorem dX6_planPack_86 : decode cX6_planPack 86 = .ok (.invokevirtual 137, 3) := by decide +kernel
theorem dX6_planPack_89 : decode cX6_planPack 89 = .ok (.isub, 1) := by decide +kernel
theorem dX6_planPack_90 : decode cX6_planPack 90 = .ok (.ireturn, 1) := by decide +kernel
theorem dX6_layPile_0 : decode cX6_layPile 0 = .ok (.aload_n 0, 1) := by decide +kernel
theorem dX6_layPile_1 : decode cX6_layPile 1 = .ok (.getfield 81, 3) := by decide +kernel
theorem dX6_layPile_4 : decode cX6_layPile 4 = .ok (.getfield 330, 3) := by decide +kernel
theorem dX6_layPile_7 : decode cX6_layPile 7 = .ok (.astore_n 3, 1) := by decide +kernel
theorem dX6_layPile_8 : decode cX6_layPile 8 = .ok (.iconst 0, 1) := by decide +kernel
theorem dX6_layPile_9 : decode cX6_layPile 9 = .ok (.istore 4, 2) := by decide +kernel
theorem dX6_layPile_11 : decode cX6_layPile 11 = .ok (.iconst 0, 1) := by decide +kernel
theorem dX6_layPile_12 : decode cX6_layPile 12 = .ok (.istore 5, 2) := by decide +kernel
theorem dX6_layPile_14 : decode cX6_layPile 14 = .ok (.iload 5, 2) := by decide +kernel
theorem dX6_layPile_16 : decode cX6_layPile 16 = .ok (.sipush 512, 3) := by decide +kernel
theorem dX6_layPile_19 : decode cX6_layPile 19 = .ok (.if_icmp .ge 76, 3) := by decide +kernel
theorem dX6_layPile_22 : decode cX6_layPile 22 = .ok (.iload 4, 2) := by decide +kernel
theorem dX6_layPile_24 : decode cX6_layPile 24 = .ok (.aload_n 3, 1) := by decide +kernel
theorem dX6_layPile_25 : decode cX6_layPile 25 = .ok (.invokevirtual 137, 3) := by decide +kernel
theorem dX6_layPile_28 : decode cX6_layPile 28 = .ok (.if_icmp .ge 67, 3) := by decide +kernel
theorem dX6_layPile_31 : decode cX6_layPile 31 = .ok (.aload_n 0, 1) := by decide +kernel
theorem dX6_layPile_32 : decode cX6_layPile 32 = .ok (.getfield 13, 3) := by decide +kernel
theorem dX6_layPile_35 : decode cX6_layPile 35 = .ok (.ifCond .ne 10, 3) := by decide +kernel
theorem dX6_layPile_38 : decode cX6_layPile 38 = .ok (.aload_n 3, 1) := by decide +kernel
theorem dX6_layPile_39 : decode cX6_layPile 39 = .ok (.invokevirtual 137, 3) := by decide +kernel
theorem dX6_layPile_42 : decode cX6_layPile 42 = .ok (.goto 16, 3) := by decide +kernel
theorem dX6_layPile_45 : decode cX6_layPile 45 = .ok (.aload_n 0, 1) := by decide +kernel
theorem dX6_layPile_46 : decode cX6_layPile 46 = .ok (.getfield 81, 3) := by decide +kernel
theorem dX6_layPile_49 : decode cX6_layPile 49 = .ok (.iload 4, 2) := by decide +kernel
theorem dX6_layPile_51 : decode cX6_layPile 51 = .ok (.aload_n 0, 1) := by decide +kernel
theorem dX6_layPile_52 : decode cX6_layPile 52 = .ok (.getfield 19, 3) := by decide +kernel
theorem dX6_layPile_55 : decode cX6_layPile 55 = .ok (.invokevirtual 380, 3) := by decide +kernel
theorem dX6_layPile_58 : decode cX6_layPile 58 = .ok (.istore 6, 2) := by decide +kernel
theorem dX6_layPile_60 : decode cX6_layPile 60 = .ok (.aload_n 0, 1) := by decide +kernel
theorem dX6_layPile_61 : decode cX6_layPile 61 = .ok (.getfield 72, 3) := by decide +kernel
theorem dX6_layPile_64 : decode cX6_layPile 64 = .ok (.iload_n 1, 1) := by decide +kernel
theorem dX6_layPile_65 : decode cX6_layPile 65 = .ok (.iload_n 2, 1) := by decide +kernel
theorem dX6_layPile_66 : decode cX6_layPile 66 = .ok (.iload 5, 2) := by decide +kernel
theorem dX6_layPile_68 : decode cX6_layPile 68 = .ok (.iadd, 1) := by decide +kernel
theorem dX6_layPile_69 : decode cX6_layPile 69 = .ok (.aload_n 3, 1) := by decide +kernel
theorem dX6_layPile_70 : decode cX6_layPile 70 = .ok (.iload 4, 2) := by decide +kernel
theorem dX6_layPile_72 : decode cX6_layPile 72 = .ok (.iload 6, 2) := by decide +kernel
theorem dX6_layPile_74 : decode cX6_layPile 74 = .ok (.aload_n 0, 1) := by decide +kernel
theorem dX6_layPile_75 : decode cX6_layPile 75 = .ok (.getfield 22, 3) := by decide +kernel
theorem dX6_layPile_78 : decode cX6_layPile 78 = .ok (.aload_n 0, 1) := by decide +kernel
theorem dX6_layPile_79 : decode cX6_layPile 79 = .ok (.getfield 25, 3) := by decide +kernel
theorem dX6_layPile_82 : decode cX6_layPile 82 = .ok (.invokevirtual 337, 3) := by decide +kernel
theorem dX6_layPile_85 : decode cX6_layPile 85 = .ok (.iload 6, 2) := by decide +kernel
theorem dX6_layPile_87 : decode cX6_layPile 87 = .ok (.istore 4, 2) := by decide +kernel
theorem dX6_layPile_89 : decode cX6_layPile 89 = .ok (.iinc 5 1, 3) := by decide +kernel
theorem dX6_layPile_92 : decode cX6_layPile 92 = .ok (.goto (-78), 3) := by decide +kernel
theorem dX6_layPile_95 : decode cX6_layPile 95 = .ok (.aload_n 0, 1) := by decide +kernel
theorem dX6_layPile_96 : decode cX6_layPile 96 = .ok (.getfield 36, 3) := by decide +kernel
theorem dX6_layPile_99 : decode cX6_layPile 99 = .ok (.iconst 5, 1) := by decide +kernel
theorem dX6_layPile_100 : decode cX6_layPile 100 = .ok (.aload_n 3, 1) := by decide +kernel
theorem dX6_layPile_101 : decode cX6_layPile 101 = .ok (.invokevirtual 137, 3) := by decide +kernel
theorem dX6_layPile_104 : decode cX6_layPile 104 = .ok (.invokevirtual 163, 3) := by decide +kernel
theorem dX6_layPile_107 : decode cX6_layPile 107 = .ok (.return_, 1) := by decide +kernel
theorem dX6_valueOf_0 : decode cX6_valueOf 0 = .ok (.iload_n 1, 1) := by decide +kernel
theorem dX6_valueOf_1 : decode cX6_valueOf 1 = .ok (.ifCond .eq 14, 3) := by decide +kernel
theorem dX6_valueOf_4 : decode cX6_valueOf 4 = .ok (.aload_n 0, 1) := by decide +kernel
theorem dX6_valueOf_5 : decode cX6_valueOf 5 = .ok (.getfield 59, 3) := by decide +kernel
theorem dX6_valueOf_8 : decode cX6_valueOf 8 = .ok (.iload_n 1, 1) := by decide +kernel
theorem dX6_valueOf_9 : decode cX6_valueOf 9 = .ok (.invokevirtual 220, 3) := by decide +kernel
theorem dX6_valueOf_12 : decode cX6_valueOf 12 = .ok (.goto 4, 3) := by decide +kernel
theorem dX6_valueOf_15 : decode cX6_valueOf 15 = .ok (.iconst (-1), 1) := by decide +kernel
theorem dX6_valueOf_16 : decode cX6_valueOf 16 = .ok (.ireturn, 1) := by decide +kernel
theorem dX6_lookUp_0 : decode cX6_lookUp 0 = .ok (.aload_n 0, 1) := by decide +kernel
theorem dX6_lookUp_1 : decode cX6_lookUp 1 = .ok (.getfield 59, 3) := by decide +kernel
theorem dX6_lookUp_4 : decode cX6_lookUp 4 = .ok (.aload_n 0, 1) := by decide +kernel
theorem dX6_lookUp_5 : decode cX6_lookUp 5 = .ok (.getfield 49, 3) := by decide +kernel
theorem dX6_lookUp_8 : decode cX6_lookUp 8 = .ok (.getfield 134, 3) := by decide +kernel
theorem dX6_lookUp_11 : decode cX6_lookUp 11 = .ok (.iconst 0, 1) := by decide +kernel
theorem dX6_lookUp_12 : decode cX6_lookUp 12 = .ok (.aload_n 0, 1) := by decide +kernel
theorem dX6_lookUp_13 : decode cX6_lookUp 13 = .ok (.getfield 49, 3) := by decide +kernel
theorem dX6_lookUp_16 : decode cX6_lookUp 16 = .ok (.getfield 134, 3) := by decide +kernel
theorem dX6_lookUp_19 : decode cX6_lookUp 19 = .ok (.invokevirtual 137, 3) := by decide +kernel
theorem dX6_lookUp_22 : decode cX6_lookUp 22 = .ok (.iload_n 1, 1) := by decide +kernel
theorem dX6_lookUp_23 : decode cX6_lookUp 23 = .ok (.iload_n 2, 1) := by decide +kernel
theorem dX6_lookUp_24 : decode cX6_lookUp 24 = .ok (.invokevirtual 383, 3) := by decide +kernel
theorem dX6_lookUp_27 : decode cX6_lookUp 27 = .ok (.istore 4, 2) := by decide +kernel
theorem dX6_lookUp_29 : decode cX6_lookUp 29 = .ok (.iload 4, 2) := by decide +kernel
theorem dX6_lookUp_31 : decode cX6_lookUp 31 = .ok (.ifCond .eq 8, 3) := by decide +kernel
theorem dX6_lookUp_34 : decode cX6_lookUp 34 = .ok (.iload 4, 2) := by decide +kernel
theorem dX6_lookUp_36 : decode cX6_lookUp 36 = .ok (.goto 10, 3) := by decide +kernel
theorem dX6_lookUp_39 : decode cX6_lookUp 39 = .ok (.aload_n 0, 1) := by decide +kernel
theorem dX6_lookUp_40 : decode cX6_lookUp 40 = .ok (.iload_n 1, 1) := by decide +kernel
theorem dX6_lookUp_41 : decode cX6_lookUp 41 = .ok (.iload_n 2, 1) := by decide +kernel
theorem dX6_lookUp_42 : decode cX6_lookUp 42 = .ok (.aload_n 3, 1) := by decide +kernel
theorem dX6_lookUp_43 : decode cX6_lookUp 43 = .ok (.invokevirtual 262, 3) := by decide +kernel
theorem dX6_lookUp_46 : decode cX6_lookUp 46 = .ok (.ireturn, 1) := by decide +kernel
theorem dX6_lookInRuns_0 : decode cX6_lookInRuns 0 = .ok (.iconst 0, 1) := by decide +kernel
theorem dX6_lookInRuns_1 : decode cX6_lookInRuns 1 = .ok (.istore 4, 2) := by decide +kernel
theorem dX6_lookInRuns_3 : decode cX6_lookInRuns 3 = .ok (.iload 4, 2) := by decide +kernel
theorem dX6_lookInRuns_5 : decode cX6_lookInRuns 5 = .ok (.aload_n 0, 1) := by decide +kernel
theorem dX6_lookInRuns_6 : decode cX6_lookInRuns 6 = .ok (.getfield 72, 3) := by decide +kernel
theorem dX6_lookInRuns_9 : decode cX6_lookInRuns 9 = .ok (.invokevirtual 102, 3) := by decide +kernel
theorem dX6_lookInRuns_12 : decode cX6_lookInRuns 12 = .ok (.if_icmp .ge 45, 3) := by decide +kernel
theorem dX6_lookInRuns_15 : decode cX6_lookInRuns 15 = .ok (.aload_n 0, 1) := by decide +kernel
theorem dX6_lookInRuns_16 : decode cX6_lookInRuns 16 = .ok (.getfield 72, 3) := by decide +kernel
theorem dX6_lookInRuns_19 : decode cX6_lookInRuns 19 = .ok (.iload 4, 2) := by decide +kernel
theorem dX6_lookInRuns_21 : decode cX6_lookInRuns 21 = .ok (.iload_n 1, 1) := by decide +kernel
theorem dX6_lookInRuns_22 : decode cX6_lookInRuns 22 = .ok (.invokevirtual 387, 3) := by decide +kernel
theorem dX6_lookInRuns_25 : decode cX6_lookInRuns 25 = .ok (.ifCond .eq 15, 3) := by decide +kernel
theorem dX6_lookInRuns_28 : decode cX6_lookInRuns 28 = .ok (.aload_n 0, 1) := by decide +kernel
theorem dX6_lookInRuns_29 : decode cX6_lookInRuns 29 = .ok (.iload 4, 2) := by decide +kernel
theorem dX6_lookInRuns_31 : decode cX6_lookInRuns 31 = .ok (.iload_n 1, 1) := by decide +kernel
theorem dX6_lookInRuns_32 : decode cX6_lookInRuns 32 = .ok (.iload_n 2, 1) := by decide +kernel
theorem dX6_lookInRuns_33 : decode cX6_lookInRuns 33 = .ok (.aload_n 3, 1) := by decide +kernel
theorem dX6_lookInRuns_34 : decode cX6_lookInRuns 34 = .ok (.invokevirtual 390, 3) := by decide +kernel
theorem dX6_lookInRuns_37 : decode cX6_lookInRuns 37 = .ok (.goto 4, 3) := by decide +kernel
theorem dX6_lookInRuns_40 : decode cX6_lookInRuns 40 = .ok (.iconst 0, 1) := by decide +kernel
theorem dX6_lookInRuns_41 : decode cX6_lookInRuns 41 = .ok (.istore 5, 2) := by decide +kernel
theorem dX6_lookInRuns_43 : decode cX6_lookInRuns 43 = .ok (.iload 5, 2) := by decide +kernel
theorem dX6_lookInRuns_45 : decode cX6_lookInRuns 45 = .ok (.ifCond .eq 6, 3) := by decide +kernel
theorem dX6_lookInRuns_48 : decode cX6_lookInRuns 48 = .ok (.iload 5, 2) := by decide +kernel
theorem dX6_lookInRuns_50 : decode cX6_lookInRuns 50 = .ok (.ireturn, 1) := by decide +kernel
theorem dX6_lookInRuns_51 : decode cX6_lookInRuns 51 = .ok (.iinc 4 1, 3) := by decide +kernel
theorem dX6_lookInRuns_54 : decode cX6_lookInRuns 54 = .ok (.goto (-51), 3) := by decide +kernel
theorem dX6_lookInRuns_57 : decode cX6_lookInRuns 57 = .ok (.iconst 0, 1) := by decide +kernel
theorem dX6_lookInRuns_58 : decode cX6_lookInRuns 58 = .ok (.ireturn, 1) := by decide +kernel
theorem dX6_lookInRun_0 : decode cX6_lookInRun 0 = .ok (.aload_n 0, 1) := by decide +kernel
theorem dX6_lookInRun_1 : decode cX6_lookInRun 1 = .ok (.getfield 72, 3) := by decide +kernel
theorem dX6_lookInRun_4 : decode cX6_lookInRun 4 = .ok (.iload_n 1, 1) := by decide +kernel
theorem dX6_lookInRun_5 : decode cX6_lookInRun 5 = .ok (.iload_n 2, 1) := by decide +kernel
theorem dX6_lookInRun_6 : decode cX6_lookInRun 6 = .ok (.invokevirtual 243, 3) := by decide +kernel
theorem dX6_lookInRun_9 : decode cX6_lookInRun 9 = .ok (.ifCond .ne 12, 3) := by decide +kernel
theorem dX6_lookInRun_12 : decode cX6_lookInRun 12 = .ok (.aload 4, 2) := by decide +kernel
theorem dX6_lookInRun_14 : decode cX6_lookInRun 14 = .ok (.iconst 0, 1) := by decide +kernel
theorem dX6_lookInRun_15 : decode cX6_lookInRun 15 = .ok (.iconst 1, 1) := by decide +kernel
theorem dX6_lookInRun_16 : decode cX6_lookInRun 16 = .ok (.invokevirtual 163, 3) := by decide +kernel
theorem dX6_lookInRun_19 : decode cX6_lookInRun 19 = .ok (.iconst 0, 1) := by decide +kernel
theorem dX6_lookInRun_20 : decode cX6_lookInRun 20 = .ok (.ireturn, 1) := by decide +kernel
theorem dX6_lookInRun_21 : decode cX6_lookInRun 21 = .ok (.aload 4, 2) := by decide +kernel
theorem dX6_lookInRun_23 : decode cX6_lookInRun 23 = .ok (.iconst 1, 1) := by decide +kernel
theorem dX6_lookInRun_24 : decode cX6_lookInRun 24 = .ok (.iconst 1, 1) := by decide +kernel
theorem dX6_lookInRun_25 : decode cX6_lookInRun 25 = .ok (.invokevirtual 163, 3) := by decide +kernel
theorem dX6_lookInRun_28 : decode cX6_lookInRun 28 = .ok (.aload_n 0, 1) := by decide +kernel
theorem dX6_lookInRun_29 : decode cX6_lookInRun 29 = .ok (.getfield 72, 3) := by decide +kernel
theorem dX6_lookInRun_32 : decode cX6_lookInRun 32 = .ok (.iload_n 1, 1) := by decide +kernel
theorem dX6_lookInRun_33 : decode cX6_lookInRun 33 = .ok (.iload_n 2, 1) := by decide +kernel
theorem dX6_lookInRun_34 : decode cX6_lookInRun 34 = .ok (.aload_n 0, 1) := by decide +kernel
theorem dX6_lookInRun_35 : decode cX6_lookInRun 35 = .ok (.getfield 59, 3) := by decide +kernel
theorem dX6_lookInRun_38 : decode cX6_lookInRun 38 = .ok (.invokevirtual 183, 3) := by decide +kernel
theorem dX6_lookInRun_41 : decode cX6_lookInRun 41 = .ok (.invokevirtual 394, 3) := by decide +kernel
theorem dX6_lookInRun_44 : decode cX6_lookInRun 44 = .ok (.ifCond .ne 10, 3) := by decide +kernel
theorem dX6_lookInRun_47 : decode cX6_lookInRun 47 = .ok (.aload 4, 2) := by decide +kernel
theorem dX6_lookInRun_49 : decode cX6_lookInRun 49 = .ok (.iconst 2, 1) := by decide +kernel
theorem dX6_lookInRun_50 : decode cX6_lookInRun 50 = .ok (.iconst 1, 1) := by decide +kernel
theorem dX6_lookInRun_51 : decode cX6_lookInRun 51 = .ok (.invokevirtual 163, 3) := by decide +kernel
theorem dX6_lookInRun_54 : decode cX6_lookInRun 54 = .ok (.aload_n 0, 1) := by decide +kernel
theorem dX6_lookInRun_55 : decode cX6_lookInRun 55 = .ok (.getfield 72, 3) := by decide +kernel
theorem dX6_lookInRun_58 : decode cX6_lookInRun 58 = .ok (.iload_n 1, 1) := by decide +kernel
theorem dX6_lookInRun_59 : decode cX6_lookInRun 59 = .ok (.iload_n 2, 1) := by decide +kernel
theorem dX6_lookInRun_60 : decode cX6_lookInRun 60 = .ok (.iload_n 3, 1) := by decide +kernel
theorem dX6_lookInRun_61 : decode cX6_lookInRun 61 = .ok (.invokevirtual 394, 3) := by decide +kernel
theorem dX6_lookInRun_64 : decode cX6_lookInRun 64 = .ok (.ireturn, 1) := by decide +kernel
theorem dX6_listThere_0 : decode cX6_listThere 0 = .ok (.aload_n 0, 1) := by decide +kernel
theorem dX6_listThere_1 : decode cX6_listThere 1 = .ok (.getfield 81, 3) := by decide +kernel
theorem dX6_listThere_4 : decode cX6_listThere 4 = .ok (.invokevirtual 320, 3) := by decide +kernel
theorem dX6_listThere_7 : decode cX6_listThere 7 = .ok (.aload_n 0, 1) := by decide +kernel
theorem dX6_listThere_8 : decode cX6_listThere 8 = .ok (.getfield 81, 3) := by decide +kernel
theorem dX6_listThere_11 : decode cX6_listThere 11 = .ok (.aload_n 0, 1) := by decide +kernel
theorem dX6_listThere_12 : decode cX6_listThere 12 = .ok (.getfield 49, 3) := by decide +kernel
theorem dX6_listThere_15 : decode cX6_listThere 15 = .ok (.getfield 134, 3) := by decide +kernel
theorem dX6_listThere_18 : decode cX6_listThere 18 = .ok (.iconst 0, 1) := by decide +kernel
theorem dX6_listThere_19 : decode cX6_listThere 19 = .ok (.aload_n 0, 1) := by decide +kernel
theorem dX6_listThere_20 : decode cX6_listThere 20 = .ok (.getfield 49, 3) := by decide +kernel
theorem dX6_listThere_23 : decode cX6_listThere 23 = .ok (.getfield 134, 3) := by decide +kernel
theorem dX6_listThere_26 : decode cX6_listThere 26 = .ok (.invokevirtual 137, 3) := by decide +kernel
theorem dX6_listThere_29 : decode cX6_listThere 29 = .ok (.invokevirtual 323, 3) := by decide +kernel
theorem dX6_listThere_32 : decode cX6_listThere 32 = .ok (.aload_n 0, 1) := by decide +kernel
theorem dX6_listThere_33 : decode cX6_listThere 33 = .ok (.getfield 81, 3) := by decide +kernel
theorem dX6_listThere_36 : decode cX6_listThere 36 = .ok (.aload_n 0, 1) := by decide +kernel
theorem dX6_listThere_37 : decode cX6_listThere 37 = .ok (.getfield 72, 3) := by decide +kernel
theorem dX6_listThere_40 : decode cX6_listThere 40 = .ok (.getfield 247, 3) := by decide +kernel
theorem dX6_listThere_43 : decode cX6_listThere 43 = .ok (.iconst 0, 1) := by decide +kernel
theorem dX6_listThere_44 : decode cX6_listThere 44 = .ok (.aload_n 0, 1) := by decide +kernel
theorem dX6_listThere_45 : decode cX6_listThere 45 = .ok (.getfield 72, 3) := by decide +kernel
theorem dX6_listThere_48 : decode cX6_listThere 48 = .ok (.getfield 247, 3) := by decide +kernel
theorem dX6_listThere_51 : decode cX6_listThere 51 = .ok (.invokevirtual 137, 3) := by decide +kernel
theorem dX6_listThere_54 : decode cX6_listThere 54 = .ok (.invokevirtual 323, 3) := by decide +kernel
theorem dX6_listThere_57 : decode cX6_listThere 57 = .ok (.aload_n 0, 1) := by decide +kernel
theorem dX6_listThere_58 : decode cX6_listThere 58 = .ok (.getfield 81, 3) := by decide +kernel
theorem dX6_listThere_61 : decode cX6_listThere 61 = .ok (.iload_n 1, 1) := by decide +kernel
theorem dX6_listThere_62 : decode cX6_listThere 62 = .ok (.invokevirtual 397, 3) := by decide +kernel
theorem dX6_listThere_65 : decode cX6_listThere 65 = .ok (.aload_n 0, 1) := by decide +kernel
theorem dX6_listThere_66 : decode cX6_listThere 66 = .ok (.getfield 81, 3) := by decide +kernel
theorem dX6_listThere_69 : decode cX6_listThere 69 = .ok (.getfield 330, 3) := by decide +kernel
theorem dX6_listThere_72 : decode cX6_listThere 72 = .ok (.areturn, 1) := by decide +kernel
theorem dJ13_bitCount_95d88_0 : decode cJ13_bitCount_95d88 0 = .ok (.lload_n 0, 1) := by decide +kernel
theorem dJ13_bitCount_95d88_1 : decode cJ13_bitCount_95d88 1 = .ok (.lload_n 0, 1) := by decide +kernel
theorem dJ13_bitCount_95d88_2 : decode cJ13_bitCount_95d88 2 = .ok (.iconst 1, 1) := by decide +kernel
theorem dJ13_bitCount_95d88_3 : decode cJ13_bitCount_95d88 3 = .ok (.lushr, 1) := by decide +kernel
theorem dJ13_bitCount_95d88_4 : decode cJ13_bitCount_95d88 4 = .ok (.ldc2_w 314, 3) := by decide +kernel
theorem dJ13_bitCount_95d88_7 : decode cJ13_bitCount_95d88 7 = .ok (.land, 1) := by decide +kernel
theorem dJ13_bitCount_95d88_8 : decode cJ13_bitCount_95d88 8 = .ok (.lsub, 1) := by decide +kernel
theorem dJ13_bitCount_95d88_9 : decode cJ13_bitCount_95d88 9 = .ok (.lstore_n 0, 1) := by decide +kernel
theorem dJ13_bitCount_95d88_10 : decode cJ13_bitCount_95d88 10 = .ok (.lload_n 0, 1) := by decide +kernel
theorem dJ13_bitCount_95d88_11 : decode cJ13_bitCount_95d88 11 = .ok (.ldc2_w 316, 3) := by decide +kernel
theorem dJ13_bitCount_95d88_14 : decode cJ13_bitCount_95d88 14 = .ok (.land, 1) := by decide +kernel
theorem dJ13_bitCount_95d88_15 : decode cJ13_bitCount_95d88 15 = .ok (.lload_n 0, 1) := by decide +kernel
theorem dJ13_bitCount_95d88_16 : decode cJ13_bitCount_95d88 16 = .ok (.iconst 2, 1) := by decide +kernel
theorem dJ13_bitCount_95d88_17 : decode cJ13_bitCount_95d88 17 = .ok (.lushr, 1) := by decide +kernel
theorem dJ13_bitCount_95d88_18 : decode cJ13_bitCount_95d88 18 = .ok (.ldc2_w 316, 3) := by decide +kernel
theorem dJ13_bitCount_95d88_21 : decode cJ13_bitCount_95d88 21 = .ok (.land, 1) := by decide +kernel
theorem dJ13_bitCount_95d88_22 : decode cJ13_bitCount_95d88 22 = .ok (.ladd, 1) := by decide +kernel
theorem dJ13_bitCount_95d88_23 : decode cJ13_bitCount_95d88 23 = .ok (.lstore_n 0, 1) := by decide +kernel
theorem dJ13_bitCount_95d88_24 : decode cJ13_bitCount_95d88 24 = .ok (.lload_n 0, 1) := by decide +kernel
theorem dJ13_bitCount_95d88_25 : decode cJ13_bitCount_95d88 25 = .ok (.lload_n 0, 1) := by decide +kernel
theorem dJ13_bitCount_95d88_26 : decode cJ13_bitCount_95d88 26 = .ok (.iconst 4, 1) := by decide +kernel
theorem dJ13_bitCount_95d88_27 : decode cJ13_bitCount_95d88 27 = .ok (.lushr, 1) := by decide +kernel
theorem dJ13_bitCount_95d88_28 : decode cJ13_bitCount_95d88 28 = .ok (.ladd, 1) := by decide +kernel
theorem dJ13_bitCount_95d88_29 : decode cJ13_bitCount_95d88 29 = .ok (.ldc2_w 318, 3) := by decide +kernel
theorem dJ13_bitCount_95d88_32 : decode cJ13_bitCount_95d88 32 = .ok (.land, 1) := by decide +kernel
theorem dJ13_bitCount_95d88_33 : decode cJ13_bitCount_95d88 33 = .ok (.lstore_n 0, 1) := by decide +kernel
theorem dJ13_bitCount_95d88_34 : decode cJ13_bitCount_95d88 34 = .ok (.lload_n 0, 1) := by decide +kernel
theorem dJ13_bitCount_95d88_35 : decode cJ13_bitCount_95d88 35 = .ok (.lload_n 0, 1) := by decide +kernel
theorem dJ13_bitCount_95d88_36 : decode cJ13_bitCount_95d88 36 = .ok (.bipush 8, 2) := by decide +kernel
theorem dJ13_bitCount_95d88_38 : decode cJ13_bitCount_95d88 38 = .ok (.lushr, 1) := by decide +kernel
theorem dJ13_bitCount_95d88_39 : decode cJ13_bitCount_95d88 39 = .ok (.ladd, 1) := by decide +kernel
theorem dJ13_bitCount_95d88_40 : decode cJ13_bitCount_95d88 40 = .ok (.lstore_n 0, 1) := by decide +kernel
theorem dJ13_bitCount_95d88_41 : decode cJ13_bitCount_95d88 41 = .ok (.lload_n 0, 1) := by decide +kernel
theorem dJ13_bitCount_95d88_42 : decode cJ13_bitCount_95d88 42 = .ok (.lload_n 0, 1) := by decide +kernel
theorem dJ13_bitCount_95d88_43 : decode cJ13_bitCount_95d88 43 = .ok (.bipush 16, 2) := by decide +kernel
theorem dJ13_bitCount_95d88_45 : decode cJ13_bitCount_95d88 45 = .ok (.lushr, 1) := by decide +kernel
theorem dJ13_bitCount_95d88_46 : decode cJ13_bitCount_95d88 46 = .ok (.ladd, 1) := by decide +kernel
theorem dJ13_bitCount_95d88_47 : decode cJ13_bitCount_95d88 47 = .ok (.lstore_n 0, 1) := by decide +kernel
theorem dJ13_bitCount_95d88_48 : decode cJ13_bitCount_95d88 48 = .ok (.lload_n 0, 1) := by decide +kernel
theorem dJ13_bitCount_95d88_49 : decode cJ13_bitCount_95d88 49 = .ok (.lload_n 0, 1) := by decide +kernel
theorem dJ13_bitCount_95d88_50 : decode cJ13_bitCount_95d88 50 = .ok (.bipush 32, 2) := by decide +kernel
theorem dJ13_bitCount_95d88_52 : decode cJ13_bitCount_95d88 52 = .ok (.lushr, 1) := by decide +kernel
theorem dJ13_bitCount_95d88_53 : decode cJ13_bitCount_95d88 53 = .ok (.ladd, 1) := by decide +kernel
theorem dJ13_bitCount_95d88_54 : decode cJ13_bitCount_95d88 54 = .ok (.lstore_n 0, 1) := by decide +kernel
theorem dJ13_bitCount_95d88_55 : decode cJ13_bitCount_95d88 55 = .ok (.lload_n 0, 1) := by decide +kernel
theorem dJ13_bitCount_95d88_56 : decode cJ13_bitCount_95d88 56 = .ok (.l2i, 1) := by decide +kernel
theorem dJ13_bitCount_95d88_57 : decode cJ13_bitCount_95d88 57 = .ok (.bipush 127, 2) := by decide +kernel
theorem dJ13_bitCount_95d88_59 : decode cJ13_bitCount_95d88 59 = .ok (.iand, 1) := by decide +kernel
theorem dJ13_bitCount_95d88_60 : decode cJ13_bitCount_95d88 60 = .ok (.ireturn, 1) := by decide +kernel
def cs_W0 : List Cond := [.code yX3_init cX3_init 2 none, .methodLink RX3 1 objectInit, .instanceMethod objectInit, .code objectInit ⟨#[0xb1]⟩ 1 none, .arrayClass .int, .fieldLink RX3 7 "SiltStore$Row" "cells" "[I", .code yX0_init cX0_init 1 none, .methodLink RX0 3 objectInit, .classLink RX0 9 RX3, .instantiable RX3 2, .initialized RX3, .fieldLink RX0 14 "SiltStore$Hand" "held" "LSiltStore$Row;", .fieldLink RX0 20 "SiltStore$Hand" "written" "LSiltStore$Row;", .methodLink RX0 11 yX3_init, .instanceMethod yX3_init, .code yX3_length cX3_length 1 (some .int), .fieldLink RX3 13 "SiltStore$Row" "used" "I", .code yX0_unsafeWrites cX0_unsafeWrites 1 (some .int), .fieldLink RX0 27 "SiltStore$Hand" "safe" "I", .methodLink RX0 23 yX3_length, .instanceMethod yX3_length, .selects RX3 yX3_length yX3_length, .code yX0_makeSafe cX0_makeSafe 1 none, .code yX3_cut cX3_cut 3 none, .methodLink RX3 17 arraycopyName, .native arraycopyName, .static arraycopyName, .initialized "java/lang/System", .code yX0_loseUnsafe cX0_loseUnsafe 1 none, .methodLink RX0 31 yX3_cut, .instanceMethod yX3_cut, .selects RX3 yX3_cut yX3_cut, .code yX3_empty cX3_empty 1 none, .code yX0_empty cX0_empty 1 none, .methodLink RX0 35 yX3_empty, .instanceMethod yX3_empty, .selects RX3 yX3_empty yX3_empty, .code yX1_init cX1_init 1 none, .methodLink RX1 3 objectInit, .classLink RX1 9 RX3]
def cs_W1 : List Cond := [.fieldLink RX1 14 "SiltStore$Ledger" "keyOf" "LSiltStore$Row;", .fieldLink RX1 20 "SiltStore$Ledger" "valueOf" "LSiltStore$Row;", .fieldLink RX1 23 "SiltStore$Ledger" "order" "LSiltStore$Row;", .methodLink RX1 11 yX3_init, .code yX1_isFull cX1_isFull 1 (some .boolean), .methodLink RX1 26 yX3_length, .code yX1_newest cX1_newest 1 (some .int), .code yX3_at cX3_at 2 (some .int), .code yX1_key cX1_key 2 (some .int), .methodLink RX1 30 yX3_at, .instanceMethod yX3_at, .selects RX3 yX3_at yX3_at, .code yX1_value cX1_value 2 (some .int), .code yX1_isStone cX1_isStone 2 (some .boolean), .code yX3_write cX3_write 3 none, .code yX3_open cX3_open 3 none, .code yX1_note cX1_note 5 (some .int), .methodLink RX1 34 yX3_write, .instanceMethod yX3_write, .selects RX3 yX3_write yX3_write, .methodLink RX1 38 yX3_open, .instanceMethod yX3_open, .selects RX3 yX3_open yX3_open, .code yX1_find cX1_find 8 (some .int), .code yX2_init cX2_init 3 none, .methodLink RX2 3 objectInit, .classLink RX2 9 RX3, .fieldLink RX2 14 "SiltStore$Pile" "gathered" "LSiltStore$Row;", .fieldLink RX2 20 "SiltStore$Pile" "left" "LSiltStore$Row;", .fieldLink RX2 23 "SiltStore$Pile" "ledger" "LSiltStore$Ledger;", .fieldLink RX2 27 "SiltStore$Pile" "views" "LSiltStore$Snapshots;", .methodLink RX2 11 yX3_init, .code yX3_wipe cX3_wipe 2 none, .code yX2_begin cX2_begin 1 none, .methodLink RX2 31 yX3_wipe, .instanceMethod yX3_wipe, .selects RX3 yX3_wipe yX3_wipe, .methodLink RX2 34 yX3_empty, .code yX2_gather cX2_gather 5 none, .methodLink RX2 37 yX3_at]
def cs_W2 : List Cond := [.methodLink RX2 41 yX3_write, .code yX5_see cX5_see 4 (some .boolean), .fieldLink RX5 20 "SiltStore$Snapshots" "ages" "LSiltStore$Row;", .methodLink RX5 23 yX3_length, .methodLink RX5 27 yX3_at, .code yX3_append cX3_append 2 none, .code yX2_keepNeeded cX2_keepNeeded 5 none, .methodLink RX2 50 yX3_length, .methodLink RX2 54 yX1_key, .instanceMethod yX1_key, .selects RX1 yX1_key yX1_key, .initialized RX1, .methodLink RX2 57 yX5_see, .instanceMethod yX5_see, .selects RX5 yX5_see yX5_see, .initialized RX5, .methodLink RX2 63 yX3_append, .instanceMethod yX3_append, .selects RX3 yX3_append yX3_append, .code yX2_keepThere cX2_keepThere 6 none, .methodLink RX2 66 yX1_isStone, .instanceMethod yX1_isStone, .selects RX1 yX1_isStone yX1_isStone, .code yX2_dropStones cX2_dropStones 8 none, .methodLink RX2 70 yX1_newest, .instanceMethod yX1_newest, .selects RX1 yX1_newest yX1_newest, .methodLink RX2 73 yX1_find, .instanceMethod yX1_find, .selects RX1 yX1_find yX1_find, .methodLink RX2 77 yX3_cut, .code yX2_pieceEnd cX2_pieceEnd 6 (some .int), .code yX3_raise cX3_raise 3 none, .code yX3_copy cX3_copy 3 none, .methodLink RX3 23 yX3_length, .methodLink RX3 27 yX3_at, .methodLink RX3 31 yX3_append, .code yX4_init cX4_init 2 none, .methodLink RX4 3 objectInit, .classLink RX4 9 RX3]
def cs_W3 : List Cond := [.fieldLink RX4 14 "SiltStore$Shelf" "ages" "LSiltStore$Row;", .fieldLink RX4 20 "SiltStore$Shelf" "ends" "LSiltStore$Row;", .fieldLink RX4 23 "SiltStore$Shelf" "bits" "LSiltStore$Row;", .fieldLink RX4 26 "SiltStore$Shelf" "hashes" "LSiltStore$Row;", .fieldLink RX4 29 "SiltStore$Shelf" "lowBits" "LSiltStore$Row;", .fieldLink RX4 32 "SiltStore$Shelf" "highBits" "LSiltStore$Row;", .fieldLink RX4 35 "SiltStore$Shelf" "counts" "LSiltStore$Row;", .fieldLink RX4 38 "SiltStore$Shelf" "ledger" "LSiltStore$Ledger;", .methodLink RX4 11 yX3_init, .code yX4_total cX4_total 1 (some .int), .methodLink RX4 42 yX3_length, .code yX4_count cX4_count 2 (some .int), .methodLink RX4 46 yX3_at, .code yX4_first cX4_first 4 (some .int), .code yX4_begin cX4_begin 2 (some .int), .code yX4_length cX4_length 2 (some .int), .methodLink RX4 50 yX4_begin, .instanceMethod yX4_begin, .selects RX4 yX4_begin yX4_begin, .initialized RX4, .code yX4_entriesOn cX4_entriesOn 2 (some .int), .methodLink RX4 53 yX4_first, .instanceMethod yX4_first, .selects RX4 yX4_first yX4_first, .code yX4_age cX4_age 3 (some .int), .code yX4_least cX4_least 2 (some .int), .methodLink RX4 56 yX1_key, .code yX4_greatest cX4_greatest 2 (some .int), .code yX4_spans cX4_spans 3 (some .boolean), .methodLink RX4 61 yX4_least, .instanceMethod yX4_least, .selects RX4 yX4_least yX4_least, .methodLink RX4 64 yX4_greatest, .instanceMethod yX4_greatest, .selects RX4 yX4_greatest yX4_greatest, .code yX4_find cX4_find 4 (some .int), .methodLink RX4 67 yX1_find, .code yX4_leastOf cX4_leastOf 5 (some .int), .methodLink RX4 71 Lib.Math.min.name, .static Lib.Math.min.name]
def cs_W4 : List Cond := [.initialized "java/lang/Math", .code Lib.Math.min.name Lib.Math.min.code 2 (some .int), .code yX4_greatestOf cX4_greatestOf 5 (some .int), .methodLink RX4 77 Lib.Math.max.name, .static Lib.Math.max.name, .code Lib.Math.max.name Lib.Math.max.code 2 (some .int), .code yX4_firstBeyond cX4_firstBeyond 5 (some .int), .code yX4_firstReaching cX4_firstReaching 5 (some .int), .code yX4_bitsOf cX4_bitsOf 6 (some .long), .code yX4_openRun cX4_openRun 2 none, .methodLink RX4 80 yX3_open, .code yX4_insert cX4_insert 15 none, .methodLink RX4 84 yX3_write, .methodLink RX4 87 yX4_bitsOf, .static yX4_bitsOf, .methodLink RX4 91 yX4_openRun, .instanceMethod yX4_openRun, .selects RX4 yX4_openRun yX4_openRun, .methodLink RX4 94 yX3_raise, .instanceMethod yX3_raise, .selects RX3 yX3_raise yX3_raise, .code yX4_cut cX4_cut 10 none, .methodLink RX4 97 yX3_cut, .code yX4_filterOf cX4_filterOf 2 (some .long), .constantLong RX4 110 (4294967295), .code yX4_setBits cX4_setBits 2 (some .int), .methodLink RX4 100 yX4_filterOf, .instanceMethod yX4_filterOf, .selects RX4 yX4_filterOf yX4_filterOf, .methodLink RX4 104 yJ13_bitCount_95d88, .static yJ13_bitCount_95d88, .initialized RJ13, .code yJ13_bitCount_95d88 cJ13_bitCount_95d88 2 (some .int), .constantLong RJ13 314 (6148914691236517205), .constantLong RJ13 316 (3689348814741910323), .constantLong RJ13 318 (1085102592571150095), .code yX4_passes cX4_passes 5 (some .boolean), .code yX5_init cX5_init 1 none, .methodLink RX5 3 objectInit, .classLink RX5 9 RX3]
def cs_W5 : List Cond := [.fieldLink RX5 14 "SiltStore$Snapshots" "numbers" "LSiltStore$Row;", .methodLink RX5 11 yX3_init, .code yX5_there cX5_there 1 (some .int), .code yX5_age cX5_age 2 (some .int), .code yX5_take cX5_take 3 (some .int), .fieldLink RX5 31 "SiltStore$Snapshots" "taken" "I", .methodLink RX5 35 yX3_append, .code yX5_placeOf cX5_placeOf 3 (some .int), .code yX5_letGo cX5_letGo 2 none, .methodLink RX5 38 yX3_cut, .code yX5_loseAll cX5_loseAll 1 none, .methodLink RX5 42 yX3_empty, .code yX6_init cX6_init 4 none, .methodLink RX6 1 objectInit, .fieldLink RX6 7 "SiltStore" "room" "I", .fieldLink RX6 13 "SiltStore" "way" "I", .fieldLink RX6 16 "SiltStore" "fan" "I", .fieldLink RX6 19 "SiltStore" "piece" "I", .fieldLink RX6 22 "SiltStore" "bits" "I", .fieldLink RX6 25 "SiltStore" "hashes" "I", .fieldLink RX6 28 "SiltStore" "every" "I", .classLink RX6 31 RX3, .fieldLink RX6 36 "SiltStore" "tally" "LSiltStore$Row;", .fieldLink RX6 40 "SiltStore" "trial" "LSiltStore$Row;", .fieldLink RX6 43 "SiltStore" "marks" "LSiltStore$Row;", .classLink RX6 46 RX0, .instantiable RX0 3, .initialized RX0, .fieldLink RX6 49 "SiltStore" "front" "LSiltStore$Hand;", .classLink RX6 53 RX1, .instantiable RX1 3, .classLink RX6 56 RX5, .instantiable RX5 3, .fieldLink RX6 59 "SiltStore" "ledger" "LSiltStore$Ledger;", .fieldLink RX6 63 "SiltStore" "views" "LSiltStore$Snapshots;", .classLink RX6 67 RX4, .instantiable RX4 8, .fieldLink RX6 72 "SiltStore" "shelf" "LSiltStore$Shelf;", .classLink RX6 76 RX2, .instantiable RX2 4]
def cs_W6 : List Cond := [.initialized RX2, .fieldLink RX6 81 "SiltStore" "pile" "LSiltStore$Pile;", .methodLink RX6 33 yX3_init, .instanceMethod yX0_init, .instanceMethod yX1_init, .instanceMethod yX5_init, .methodLink RX6 69 yX4_init, .instanceMethod yX4_init, .methodLink RX6 78 yX2_init, .instanceMethod yX2_init, .methodLink RX6 85 yX3_write, .code yX6_setRoom cX6_setRoom 3 (some .int), .classLink RX6 89 "java/lang/IllegalArgumentException", .initialized "java/lang/IllegalArgumentException", .code yX6_setWay cX6_setWay 5 (some .int), .classLink RX6 106 "java/lang/IllegalStateException", .initialized "java/lang/IllegalStateException", .methodLink RX6 102 yX4_total, .instanceMethod yX4_total, .selects RX4 yX4_total yX4_total, .code yX6_setFilter cX6_setFilter 4 (some .int), .code yX6_setEvery cX6_setEvery 3 (some .int), .code yX6_checkKey cX6_checkKey 1 none, .code yX6_fillHand cX6_fillHand 1 none, .methodLink RX6 320 yX2_begin, .instanceMethod yX2_begin, .selects RX2 yX2_begin yX2_begin, .methodLink RX6 137 yX3_length, .methodLink RX6 323 yX2_gather, .instanceMethod yX2_gather, .selects RX2 yX2_gather yX2_gather, .methodLink RX6 327 yX2_keepNeeded, .instanceMethod yX2_keepNeeded, .selects RX2 yX2_keepNeeded yX2_keepNeeded, .methodLink RX6 333 yX3_copy, .instanceMethod yX3_copy, .selects RX3 yX3_copy yX3_copy, .code yX6_layHand cX6_layHand 2 none, .methodLink RX6 337 yX4_insert, .instanceMethod yX4_insert]
def cs_W7 : List Cond := [.selects RX4 yX4_insert yX4_insert, .methodLink RX6 163 yX3_raise, .methodLink RX6 341 yX0_empty, .instanceMethod yX0_empty, .selects RX0 yX0_empty yX0_empty, .code yX6_write cX6_write 4 (some .int), .methodLink RX6 310 yX1_isFull, .instanceMethod yX1_isFull, .selects RX1 yX1_isFull yX1_isFull, .methodLink RX6 314 yX1_note, .instanceMethod yX1_note, .selects RX1 yX1_note yX1_note, .methodLink RX6 317 yX3_append, .methodLink RX6 131 yX0_makeSafe, .instanceMethod yX0_makeSafe, .selects RX0 yX0_makeSafe yX0_makeSafe, .methodLink RX6 175 yX6_fillHand, .instanceMethod yX6_fillHand, .selects RX6 yX6_fillHand yX6_fillHand, .initialized RX6, .methodLink RX6 140 yX6_layHand, .instanceMethod yX6_layHand, .selects RX6 yX6_layHand yX6_layHand, .code yX6_isFull cX6_isFull 2 (some .boolean), .methodLink RX6 156 yX4_count, .instanceMethod yX4_count, .selects RX4 yX4_count yX4_count, .methodLink RX6 362 yX4_entriesOn, .instanceMethod yX4_entriesOn, .selects RX4 yX4_entriesOn yX4_entriesOn, .code yX6_firstFull cX6_firstFull 2 (some .int), .methodLink RX6 360 yX6_isFull, .instanceMethod yX6_isFull, .selects RX6 yX6_isFull yX6_isFull, .code yX6_takeRuns cX6_takeRuns 5 none, .methodLink RX6 153 yX4_first, .methodLink RX6 354 yX4_begin, .methodLink RX6 159 yX4_cut, .instanceMethod yX4_cut, .selects RX4 yX4_cut yX4_cut]
def cs_W8 : List Cond := [.code yX6_takeLevel cX6_takeLevel 2 (some .int), .methodLink RX6 365 yX6_takeRuns, .instanceMethod yX6_takeRuns, .selects RX6 yX6_takeRuns yX6_takeRuns, .code yX6_takePart cX6_takePart 9 (some .int), .methodLink RX6 211 yX3_at, .methodLink RX6 368 yX4_firstBeyond, .instanceMethod yX4_firstBeyond, .selects RX4 yX4_firstBeyond yX4_firstBeyond, .methodLink RX6 371 yX4_leastOf, .instanceMethod yX4_leastOf, .selects RX4 yX4_leastOf yX4_leastOf, .methodLink RX6 374 yX4_greatestOf, .instanceMethod yX4_greatestOf, .selects RX4 yX4_greatestOf yX4_greatestOf, .methodLink RX6 377 yX4_firstReaching, .instanceMethod yX4_firstReaching, .selects RX4 yX4_firstReaching yX4_firstReaching, .code yX6_layPile cX6_layPile 7 none, .methodLink RX6 380 yX2_pieceEnd, .instanceMethod yX2_pieceEnd, .selects RX2 yX2_pieceEnd yX2_pieceEnd, .code yX6_settle cX6_settle 4 none, .constant RX6 344 (1000000), .methodLink RX6 345 yX6_firstFull, .instanceMethod yX6_firstFull, .selects RX6 yX6_firstFull yX6_firstFull, .methodLink RX6 348 yX6_takeLevel, .instanceMethod yX6_takeLevel, .selects RX6 yX6_takeLevel yX6_takeLevel, .methodLink RX6 351 yX6_takePart, .instanceMethod yX6_takePart, .selects RX6 yX6_takePart yX6_takePart, .methodLink RX6 356 yX2_dropStones, .instanceMethod yX2_dropStones, .selects RX2 yX2_dropStones yX2_dropStones, .methodLink RX6 166 yX6_layPile, .instanceMethod yX6_layPile, .selects RX6 yX6_layPile yX6_layPile, .code yX6_put cX6_put 4 (some .int)]
def cs_W9 : List Cond := [.methodLink RX6 117 yX6_checkKey, .static yX6_checkKey, .methodLink RX6 122 yX6_write, .instanceMethod yX6_write, .selects RX6 yX6_write yX6_write, .methodLink RX6 125 yX6_settle, .instanceMethod yX6_settle, .selects RX6 yX6_settle yX6_settle, .code yX6_remove cX6_remove 3 (some .int), .code yX6_flush cX6_flush 2 (some .int), .code yX6_checkLevel cX6_checkLevel 1 none, .classLink RX6 231 "java/lang/IndexOutOfBoundsException", .initialized "java/lang/IndexOutOfBoundsException", .code yX6_firstPacked cX6_firstPacked 2 (some .int), .code yX6_planPack cX6_planPack 4 (some .int), .methodLink RX6 150 yX6_firstPacked, .instanceMethod yX6_firstPacked, .selects RX6 yX6_firstPacked yX6_firstPacked, .code yX6_pack cX6_pack 5 (some .int), .methodLink RX6 143 yX6_checkLevel, .static yX6_checkLevel, .methodLink RX6 146 yX6_planPack, .instanceMethod yX6_planPack, .selects RX6 yX6_planPack yX6_planPack, .code yX6_crash cX6_crash 2 (some .int), .methodLink RX6 128 yX0_unsafeWrites, .instanceMethod yX0_unsafeWrites, .selects RX0 yX0_unsafeWrites yX0_unsafeWrites, .methodLink RX6 169 yX0_loseUnsafe, .instanceMethod yX0_loseUnsafe, .selects RX0 yX0_loseUnsafe yX0_loseUnsafe, .methodLink RX6 172 yX5_loseAll, .instanceMethod yX5_loseAll, .selects RX5 yX5_loseAll yX5_loseAll, .code yX6_snap cX6_snap 1 (some .int), .methodLink RX6 178 yX5_there, .instanceMethod yX5_there, .selects RX5 yX5_there yX5_there, .methodLink RX6 183 yX1_newest, .methodLink RX6 186 yX5_take]
def cs_W10 : List Cond := [.instanceMethod yX5_take, .selects RX5 yX5_take yX5_take, .code yX6_placeOfSnapshot cX6_placeOfSnapshot 3 (some .int), .methodLink RX6 305 yX5_placeOf, .instanceMethod yX5_placeOf, .selects RX5 yX5_placeOf yX5_placeOf, .code yX6_release cX6_release 2 (some .int), .methodLink RX6 189 yX6_placeOfSnapshot, .instanceMethod yX6_placeOfSnapshot, .selects RX6 yX6_placeOfSnapshot yX6_placeOfSnapshot, .methodLink RX6 192 yX5_letGo, .instanceMethod yX5_letGo, .selects RX5 yX5_letGo yX5_letGo, .code yX6_lookInRun cX6_lookInRun 5 (some .int), .methodLink RX6 243 yX4_passes, .instanceMethod yX4_passes, .selects RX4 yX4_passes yX4_passes, .methodLink RX6 394 yX4_find, .instanceMethod yX4_find, .selects RX4 yX4_find yX4_find, .code yX6_lookInRuns cX6_lookInRuns 6 (some .int), .methodLink RX6 387 yX4_spans, .instanceMethod yX4_spans, .selects RX4 yX4_spans yX4_spans, .methodLink RX6 390 yX6_lookInRun, .instanceMethod yX6_lookInRun, .selects RX6 yX6_lookInRun yX6_lookInRun, .code yX6_lookUp cX6_lookUp 5 (some .int), .methodLink RX6 383 yX1_find, .methodLink RX6 262 yX6_lookInRuns, .instanceMethod yX6_lookInRuns, .selects RX6 yX6_lookInRuns yX6_lookInRuns, .code yX6_valueOf cX6_valueOf 2 (some .int), .methodLink RX6 220 yX1_value, .instanceMethod yX1_value, .selects RX1 yX1_value yX1_value, .code yX6_get cX6_get 2 (some .int), .methodLink RX6 195 yX6_lookUp, .instanceMethod yX6_lookUp, .selects RX6 yX6_lookUp yX6_lookUp]
def cs_W11 : List Cond := [.methodLink RX6 199 yX6_valueOf, .instanceMethod yX6_valueOf, .selects RX6 yX6_valueOf yX6_valueOf, .code yX6_getAt cX6_getAt 4 (some .int), .methodLink RX6 202 yX5_age, .instanceMethod yX5_age, .selects RX5 yX5_age yX5_age, .code yX6_listThere cX6_listThere 2 (some (.object "SiltStore$Row")), .methodLink RX6 397 yX2_keepThere, .instanceMethod yX2_keepThere, .selects RX2 yX2_keepThere yX2_keepThere, .code yX6_next cX6_next 5 (some .int), .methodLink RX6 207 yX6_listThere, .instanceMethod yX6_listThere, .selects RX6 yX6_listThere yX6_listThere, .methodLink RX6 214 yX1_key, .code yX6_checkKeys cX6_checkKeys 2 none, .code yX6_sum cX6_sum 7 (some .int), .methodLink RX6 217 yX6_checkKeys, .static yX6_checkKeys, .code yX6_keys cX6_keys 1 (some .int), .code yX6_hand cX6_hand 1 (some .int), .code yX6_log cX6_log 1 (some .int), .code yX6_unsafe cX6_unsafe 1 (some .int), .code yX6_snapshots cX6_snapshots 1 (some .int), .code yX6_runs cX6_runs 2 (some .int), .code yX6_numberOf cX6_numberOf 3 (some .int), .code yX6_size cX6_size 3 (some .int), .methodLink RX6 226 yX6_numberOf, .instanceMethod yX6_numberOf, .selects RX6 yX6_numberOf yX6_numberOf, .methodLink RX6 229 yX4_length, .instanceMethod yX4_length, .selects RX4 yX4_length yX4_length, .code yX6_entry cX6_entry 7 (some .int), .methodLink RX6 238 yX4_age, .instanceMethod yX4_age, .selects RX4 yX4_age yX4_age, .code yX6_mayHave cX6_mayHave 5 (some .boolean), .code yX6_entries cX6_entries 1 (some .int)]
def cs_W12 : List Cond := [.code yX6_stones cX6_stones 3 (some .int), .methodLink RX6 250 yX1_isStone, .code yX6_counted cX6_counted 2 (some .int), .code yX6_amplification cX6_amplification 2 (some .double), .code yX6_cost cX6_cost 2 (some .int), .methodLink RX6 256 yX3_wipe, .code yX6_wouldSave cX6_wouldSave 2 (some .int), .code yX6_getSafe cX6_getSafe 4 (some .int), .code yX6_digestRun cX6_digestRun 8 (some .long), .constantLong RX6 267 (31), .methodLink RX6 240 yX4_setBits, .instanceMethod yX4_setBits, .selects RX4 yX4_setBits yX4_setBits, .code yX6_digest cX6_digest 5 (some .long), .constantLong RX6 265 (58046), .methodLink RX6 269 yX6_hand, .instanceMethod yX6_hand, .selects RX6 yX6_hand yX6_hand, .methodLink RX6 272 yX6_log, .instanceMethod yX6_log, .selects RX6 yX6_log yX6_log, .methodLink RX6 275 yX6_unsafe, .instanceMethod yX6_unsafe, .selects RX6 yX6_unsafe yX6_unsafe, .methodLink RX6 278 yX6_snapshots, .instanceMethod yX6_snapshots, .selects RX6 yX6_snapshots yX6_snapshots, .methodLink RX6 281 yX6_keys, .instanceMethod yX6_keys, .selects RX6 yX6_keys yX6_keys, .methodLink RX6 284 yX6_entries, .instanceMethod yX6_entries, .selects RX6 yX6_entries yX6_entries, .methodLink RX6 287 yX6_stones, .instanceMethod yX6_stones, .selects RX6 yX6_stones yX6_stones, .methodLink RX6 290 yX6_digestRun, .instanceMethod yX6_digestRun, .selects RX6 yX6_digestRun yX6_digestRun, .methodLink RX6 294 yX6_sum]
def cs_W13 : List Cond := [.instanceMethod yX6_sum, .selects RX6 yX6_sum yX6_sum]
def cs_Wu : List Cond := wsX00 ++ (wsX10 ++ (wsX20 ++ (wsX30 ++ (wsX40 ++ (wsX50 ++ wsX60)))))
def cs_WS : List Cond := cs_W0 ++ (cs_W1 ++ (cs_W2 ++ (cs_W3 ++ (cs_W4 ++ (cs_W5 ++ (cs_W6 ++ (cs_W7 ++ (cs_W8 ++ (cs_W9 ++ (cs_W10 ++ (cs_W11 ++ (cs_W12 ++ (cs_W13 ++ cs_Wu)))))))))))))
theorem q_0 : (Cond.code yX3_init cX3_init 2 none) ∈ cs_WS := List.mem_append_left _ (List.mem_of_getElem? (i := 0) rfl)
theorem q_1 : (Cond.methodLink RX3 1 objectInit) ∈ cs_WS := List.mem_append_left _ (List.mem_of_getElem? (i := 1) rfl)
theorem q_2 : (Cond.instanceMethod objectInit) ∈ cs_WS := List.mem_append_left _ (List.mem_of_getElem? (i := 2) rfl)
theorem q_3 : (Cond.code objectInit ⟨#[0xb1]⟩ 1 none) ∈ cs_WS := List.mem_append_left _ (List.mem_of_getElem? (i := 3) rfl)
theorem q_4 : (Cond.arrayClass .int) ∈ cs_WS := List.mem_append_left _ (List.mem_of_getElem? (i := 4) rfl)
theorem q_5 : (Cond.fieldLink RX3 7 "SiltStore$Row" "cells" "[I") ∈ cs_WS := List.mem_append_left _ (List.mem_of_getElem? (i := 5) rfl)
theorem q_6 : (Cond.code yX0_init cX0_init 1 none) ∈ cs_WS := List.mem_append_left _ (List.mem_of_getElem? (i := 6) rfl)
theorem q_7 : (Cond.methodLink RX0 3 objectInit) ∈ cs_WS := List.mem_append_left _ (List.mem_of_getElem? (i := 7) rfl)
theorem q_8 : (Cond.classLink RX0 9 RX3) ∈ cs_WS := List.mem_append_left _ (List.mem_of_getElem? (i := 8) rfl)
theorem q_9 : (Cond.instantiable RX3 2) ∈ cs_WS := List.mem_append_left _ (List.mem_of_getElem? (i := 9) rfl)
theorem q_10 : (Cond.initialized RX3) ∈ cs_WS := List.mem_append_left _ (List.mem_of_getElem? (i := 10) rfl)
theorem q_11 : (Cond.fieldLink RX0 14 "SiltStore$Hand" "held" "LSiltStore$Row;") ∈ cs_WS := List.mem_append_left _ (List.mem_of_getElem? (i := 11) rfl)
theorem q_12 : (Cond.fieldLink RX0 20 "SiltStore$Hand" "written" "LSiltStore$Row;") ∈ cs_WS := List.mem_append_left _ (List.mem_of_getElem? (i := 12) rfl)
theorem q_13 : (Cond.methodLink RX0 11 yX3_init) ∈ cs_WS := List.mem_append_left _ (List.mem_of_getElem? (i := 13) rfl)
theorem q_14 : (Cond.instanceMethod yX3_init) ∈ cs_WS := List.mem_append_left _ (List.mem_of_getElem? (i := 14) rfl)
theorem q_15 : (Cond.code yX3_length cX3_length 1 (some .int)) ∈ cs_WS := List.mem_append_left _ (List.mem_of_getElem? (i := 15) rfl)
theorem q_16 : (Cond.fieldLink RX3 13 "SiltStore$Row" "used" "I") ∈ cs_WS := List.mem_append_left _ (List.mem_of_getElem? (i := 16) rfl)
theorem q_17 : (Cond.code yX0_unsafeWrites cX0_unsafeWrites 1 (some .int)) ∈ cs_WS := List.mem_append_left _ (List.mem_of_getElem? (i := 17) rfl)
theorem q_18 : (Cond.fieldLink RX0 27 "SiltStore$Hand" "safe" "I") ∈ cs_WS := List.mem_append_left _ (List.mem_of_getElem? (i := 18) rfl)
theorem q_19 : (Cond.methodLink RX0 23 yX3_length) ∈ cs_WS := List.mem_append_left _ (List.mem_of_getElem? (i := 19) rfl)
theorem q_20 : (Cond.instanceMethod yX3_length) ∈ cs_WS := List.mem_append_left _ (List.mem_of_getElem? (i := 20) rfl)
theorem q_21 : (Cond.selects RX3 yX3_length yX3_length) ∈ cs_WS := List.mem_append_left _ (List.mem_of_getElem? (i := 21) rfl)
theorem q_22 : (Cond.code yX0_makeSafe cX0_makeSafe 1 none) ∈ cs_WS := List.mem_append_left _ (List.mem_of_getElem? (i := 22) rfl)
theorem q_23 : (Cond.code yX3_cut cX3_cut 3 none) ∈ cs_WS := List.mem_append_left _ (List.mem_of_getElem? (i := 23) rfl)
theorem q_24 : (Cond.methodLink RX3 17 arraycopyName) ∈ cs_WS := List.mem_append_left _ (List.mem_of_getElem? (i := 24) rfl)
theorem q_25 : (Cond.native arraycopyName) ∈ cs_WS := List.mem_append_left _ (List.mem_of_getElem? (i := 25) rfl)
theorem q_26 : (Cond.static arraycopyName) ∈ cs_WS := List.mem_append_left _ (List.mem_of_getElem? (i := 26) rfl)
theorem q_27 : (Cond.initialized "java/lang/System") ∈ cs_WS := List.mem_append_left _ (List.mem_of_getElem? (i := 27) rfl)
theorem q_28 : (Cond.code yX0_loseUnsafe cX0_loseUnsafe 1 none) ∈ cs_WS := List.mem_append_left _ (List.mem_of_getElem? (i := 28) rfl)
theorem q_29 : (Cond.methodLink RX0 31 yX3_cut) ∈ cs_WS := List.mem_append_left _ (List.mem_of_getElem? (i := 29) rfl)
theorem q_30 : (Cond.instanceMethod yX3_cut) ∈ cs_WS := List.mem_append_left _ (List.mem_of_getElem? (i := 30) rfl)
theorem q_31 : (Cond.selects RX3 yX3_cut yX3_cut) ∈ cs_WS := List.mem_append_left _ (List.mem_of_getElem? (i := 31) rfl)
theorem q_32 : (Cond.code yX3_empty cX3_empty 1 none) ∈ cs_WS := List.mem_append_left _ (List.mem_of_getElem? (i := 32) rfl)
theorem q_33 : (Cond.code yX0_empty cX0_empty 1 none) ∈ cs_WS := List.mem_append_left _ (List.mem_of_getElem? (i := 33) rfl)
theorem q_34 : (Cond.methodLink RX0 35 yX3_empty) ∈ cs_WS := List.mem_append_left _ (List.mem_of_getElem? (i := 34) rfl)
theorem q_35 : (Cond.instanceMethod yX3_empty) ∈ cs_WS := List.mem_append_left _ (List.mem_of_getElem? (i := 35) rfl)
theorem q_36 : (Cond.selects RX3 yX3_empty yX3_empty) ∈ cs_WS := List.mem_append_left _ (List.mem_of_getElem? (i := 36) rfl)
theorem q_37 : (Cond.code yX1_init cX1_init 1 none) ∈ cs_WS := List.mem_append_left _ (List.mem_of_getElem? (i := 37) rfl)
theorem q_38 : (Cond.methodLink RX1 3 objectInit) ∈ cs_WS := List.mem_append_left _ (List.mem_of_getElem? (i := 38) rfl)
theorem q_39 : (Cond.classLink RX1 9 RX3) ∈ cs_WS := List.mem_append_left _ (List.mem_of_getElem? (i := 39) rfl)
theorem q_40 : (Cond.fieldLink RX1 14 "SiltStore$Ledger" "keyOf" "LSiltStore$Row;") ∈ cs_WS := List.mem_append_right _ (List.mem_append_left _ (List.mem_of_getElem? (i := 0) rfl))
theorem q_41 : (Cond.fieldLink RX1 20 "SiltStore$Ledger" "valueOf" "LSiltStore$Row;") ∈ cs_WS := List.mem_append_right _ (List.mem_append_left _ (List.mem_of_getElem? (i := 1) rfl))
theorem q_42 : (Cond.fieldLink RX1 23 "SiltStore$Ledger" "order" "LSiltStore$Row;") ∈ cs_WS := List.mem_append_right _ (List.mem_append_left _ (List.mem_of_getElem? (i := 2) rfl))
theorem q_43 : (Cond.methodLink RX1 11 yX3_init) ∈ cs_WS := List.mem_append_right _ (List.mem_append_left _ (List.mem_of_getElem? (i := 3) rfl))
theorem q_44 : (Cond.code yX1_isFull cX1_isFull 1 (some .boolean)) ∈ cs_WS := List.mem_append_right _ (List.mem_append_left _ (List.mem_of_getElem? (i := 4) rfl))
theorem q_45 : (Cond.methodLink RX1 26 yX3_length) ∈ cs_WS := List.mem_append_right _ (List.mem_append_left _ (List.mem_of_getElem? (i := 5) rfl))
theorem q_46 : (Cond.code yX1_newest cX1_newest 1 (some .int)) ∈ cs_WS := List.mem_append_right _ (List.mem_append_left _ (List.mem_of_getElem? (i := 6) rfl))
theorem q_47 : (Cond.code yX3_at cX3_at 2 (some .int)) ∈ cs_WS := List.mem_append_right _ (List.mem_append_left _ (List.mem_of_getElem? (i := 7) rfl))
theorem q_48 : (Cond.code yX1_key cX1_key 2 (some .int)) ∈ cs_WS := List.mem_append_right _ (List.mem_append_left _ (List.mem_of_getElem? (i := 8) rfl))
theorem q_49 : (Cond.methodLink RX1 30 yX3_at) ∈ cs_WS := List.mem_append_right _ (List.mem_append_left _ (List.mem_of_getElem? (i := 9) rfl))
theorem q_50 : (Cond.instanceMethod yX3_at) ∈ cs_WS := List.mem_append_right _ (List.mem_append_left _ (List.mem_of_getElem? (i := 10) rfl))
theorem q_51 : (Cond.selects RX3 yX3_at yX3_at) ∈ cs_WS := List.mem_append_right _ (List.mem_append_left _ (List.mem_of_getElem? (i := 11) rfl))
theorem q_52 : (Cond.code yX1_value cX1_value 2 (some .int)) ∈ cs_WS := List.mem_append_right _ (List.mem_append_left _ (List.mem_of_getElem? (i := 12) rfl))
theorem q_53 : (Cond.code yX1_isStone cX1_isStone 2 (some .boolean)) ∈ cs_WS := List.mem_append_right _ (List.mem_append_left _ (List.mem_of_getElem? (i := 13) rfl))
theorem q_54 : (Cond.code yX3_write cX3_write 3 none) ∈ cs_WS := List.mem_append_right _ (List.mem_append_left _ (List.mem_of_getElem? (i := 14) rfl))
theorem q_55 : (Cond.code yX3_open cX3_open 3 none) ∈ cs_WS := List.mem_append_right _ (List.mem_append_left _ (List.mem_of_getElem? (i := 15) rfl))
theorem q_56 : (Cond.code yX1_note cX1_note 5 (some .int)) ∈ cs_WS := List.mem_append_right _ (List.mem_append_left _ (List.mem_of_getElem? (i := 16) rfl))
theorem q_57 : (Cond.methodLink RX1 34 yX3_write) ∈ cs_WS := List.mem_append_right _ (List.mem_append_left _ (List.mem_of_getElem? (i := 17) rfl))
theorem q_58 : (Cond.instanceMethod yX3_write) ∈ cs_WS := List.mem_append_right _ (List.mem_append_left _ (List.mem_of_getElem? (i := 18) rfl))
theorem q_59 : (Cond.selects RX3 yX3_write yX3_write) ∈ cs_WS := List.mem_append_right _ (List.mem_append_left _ (List.mem_of_getElem? (i := 19) rfl))
theorem q_60 : (Cond.methodLink RX1 38 yX3_open) ∈ cs_WS := List.mem_append_right _ (List.mem_append_left _ (List.mem_of_getElem? (i := 20) rfl))
theorem q_61 : (Cond.instanceMethod yX3_open) ∈ cs_WS := List.mem_append_right _ (List.mem_append_left _ (List.mem_of_getElem? (i := 21) rfl))
theorem q_62 : (Cond.selects RX3 yX3_open yX3_open) ∈ cs_WS := List.mem_append_right _ (List.mem_append_left _ (List.mem_of_getElem? (i := 22) rfl))
theorem q_63 : (Cond.code yX1_find cX1_find 8 (some .int)) ∈ cs_WS := List.mem_append_right _ (List.mem_append_left _ (List.mem_of_getElem? (i := 23) rfl))
theorem q_64 : (Cond.code yX2_init cX2_init 3 none) ∈ cs_WS := List.mem_append_right _ (List.mem_append_left _ (List.mem_of_getElem? (i := 24) rfl))
theorem q_65 : (Cond.methodLink RX2 3 objectInit) ∈ cs_WS := List.mem_append_right _ (List.mem_append_left _ (List.mem_of_getElem? (i := 25) rfl))
theorem q_66 : (Cond.classLink RX2 9 RX3) ∈ cs_WS := List.mem_append_right _ (List.mem_append_left _ (List.mem_of_getElem? (i := 26) rfl))
theorem q_67 : (Cond.fieldLink RX2 14 "SiltStore$Pile" "gathered" "LSiltStore$Row;") ∈ cs_WS := List.mem_append_right _ (List.mem_append_left _ (List.mem_of_getElem? (i := 27) rfl))
theorem q_68 : (Cond.fieldLink RX2 20 "SiltStore$Pile" "left" "LSiltStore$Row;") ∈ cs_WS := List.mem_append_right _ (List.mem_append_left _ (List.mem_of_getElem? (i := 28) rfl))
theorem q_69 : (Cond.fieldLink RX2 23 "SiltStore$Pile" "ledger" "LSiltStore$Ledger;") ∈ cs_WS := List.mem_append_right _ (List.mem_append_left _ (List.mem_of_getElem? (i := 29) rfl))
theorem q_70 : (Cond.fieldLink RX2 27 "SiltStore$Pile" "views" "LSiltStore$Snapshots;") ∈ cs_WS := List.mem_append_right _ (List.mem_append_left _ (List.mem_of_getElem? (i := 30) rfl))
theorem q_71 : (Cond.methodLink RX2 11 yX3_init) ∈ cs_WS := List.mem_append_right _ (List.mem_append_left _ (List.mem_of_getElem? (i := 31) rfl))
theorem q_72 : (Cond.code yX3_wipe cX3_wipe 2 none) ∈ cs_WS := List.mem_append_right _ (List.mem_append_left _ (List.mem_of_getElem? (i := 32) rfl))
theorem q_73 : (Cond.code yX2_begin cX2_begin 1 none) ∈ cs_WS := List.mem_append_right _ (List.mem_append_left _ (List.mem_of_getElem? (i := 33) rfl))
theorem q_74 : (Cond.methodLink RX2 31 yX3_wipe) ∈ cs_WS := List.mem_append_right _ (List.mem_append_left _ (List.mem_of_getElem? (i := 34) rfl))
theorem q_75 : (Cond.instanceMethod yX3_wipe) ∈ cs_WS := List.mem_append_right _ (List.mem_append_left _ (List.mem_of_getElem? (i := 35) rfl))
theorem q_76 : (Cond.selects RX3 yX3_wipe yX3_wipe) ∈ cs_WS := List.mem_append_right _ (List.mem_append_left _ (List.mem_of_getElem? (i := 36) rfl))
theorem q_77 : (Cond.methodLink RX2 34 yX3_empty) ∈ cs_WS := List.mem_append_right _ (List.mem_append_left _ (List.mem_of_getElem? (i := 37) rfl))
theorem q_78 : (Cond.code yX2_gather cX2_gather 5 none) ∈ cs_WS := List.mem_append_right _ (List.mem_append_left _ (List.mem_of_getElem? (i := 38) rfl))
theorem q_79 : (Cond.methodLink RX2 37 yX3_at) ∈ cs_WS := List.mem_append_right _ (List.mem_append_left _ (List.mem_of_getElem? (i := 39) rfl))
theorem q_80 : (Cond.methodLink RX2 41 yX3_write) ∈ cs_WS := List.mem_append_right _ (List.mem_append_right _ (List.mem_append_left _ (List.mem_of_getElem? (i := 0) rfl)))
theorem q_81 : (Cond.code yX5_see cX5_see 4 (some .boolean)) ∈ cs_WS := List.mem_append_right _ (List.mem_append_right _ (List.mem_append_left _ (List.mem_of_getElem? (i := 1) rfl)))
theorem q_82 : (Cond.fieldLink RX5 20 "SiltStore$Snapshots" "ages" "LSiltStore$Row;") ∈ cs_WS := List.mem_append_right _ (List.mem_append_right _ (List.mem_append_left _ (List.mem_of_getElem? (i := 2) rfl)))
theorem q_83 : (Cond.methodLink RX5 23 yX3_length) ∈ cs_WS := List.mem_append_right _ (List.mem_append_right _ (List.mem_append_left _ (List.mem_of_getElem? (i := 3) rfl)))
theorem q_84 : (Cond.methodLink RX5 27 yX3_at) ∈ cs_WS := List.mem_append_right _ (List.mem_append_right _ (List.mem_append_left _ (List.mem_of_getElem? (i := 4) rfl)))
theorem q_85 : (Cond.code yX3_append cX3_append 2 none) ∈ cs_WS := List.mem_append_right _ (List.mem_append_right _ (List.mem_append_left _ (List.mem_of_getElem? (i := 5) rfl)))
theorem q_86 : (Cond.code yX2_keepNeeded cX2_keepNeeded 5 none) ∈ cs_WS := List.mem_append_right _ (List.mem_append_right _ (List.mem_append_left _ (List.mem_of_getElem? (i := 6) rfl)))
theorem q_87 : (Cond.methodLink RX2 50 yX3_length) ∈ cs_WS := List.mem_append_right _ (List.mem_append_right _ (List.mem_append_left _ (List.mem_of_getElem? (i := 7) rfl)))
theorem q_88 : (Cond.methodLink RX2 54 yX1_key) ∈ cs_WS := List.mem_append_right _ (List.mem_append_right _ (List.mem_append_left _ (List.mem_of_getElem? (i := 8) rfl)))
theorem q_89 : (Cond.instanceMethod yX1_key) ∈ cs_WS := List.mem_append_right _ (List.mem_append_right _ (List.mem_append_left _ (List.mem_of_getElem? (i := 9) rfl)))
theorem q_90 : (Cond.selects RX1 yX1_key yX1_key) ∈ cs_WS := List.mem_append_right _ (List.mem_append_right _ (List.mem_append_left _ (List.mem_of_getElem? (i := 10) rfl)))
theorem q_91 : (Cond.initialized RX1) ∈ cs_WS := List.mem_append_right _ (List.mem_append_right _ (List.mem_append_left _ (List.mem_of_getElem? (i := 11) rfl)))
theorem q_92 : (Cond.methodLink RX2 57 yX5_see) ∈ cs_WS := List.mem_append_right _ (List.mem_append_right _ (List.mem_append_left _ (List.mem_of_getElem? (i := 12) rfl)))
theorem q_93 : (Cond.instanceMethod yX5_see) ∈ cs_WS := List.mem_append_right _ (List.mem_append_right _ (List.mem_append_left _ (List.mem_of_getElem? (i := 13) rfl)))
theorem q_94 : (Cond.selects RX5 yX5_see yX5_see) ∈ cs_WS := List.mem_append_right _ (List.mem_append_right _ (List.mem_append_left _ (List.mem_of_getElem? (i := 14) rfl)))
theorem q_95 : (Cond.initialized RX5) ∈ cs_WS := List.mem_append_right _ (List.mem_append_right _ (List.mem_append_left _ (List.mem_of_getElem? (i := 15) rfl)))
theorem q_96 : (Cond.methodLink RX2 63 yX3_append) ∈ cs_WS := List.mem_append_right _ (List.mem_append_right _ (List.mem_append_left _ (List.mem_of_getElem? (i := 16) rfl)))
theorem q_97 : (Cond.instanceMethod yX3_append) ∈ cs_WS := List.mem_append_right _ (List.mem_append_right _ (List.mem_append_left _ (List.mem_of_getElem? (i := 17) rfl)))
theorem q_98 : (Cond.selects RX3 yX3_append yX3_append) ∈ cs_WS := List.mem_append_right _ (List.mem_append_right _ (List.mem_append_left _ (List.mem_of_getElem? (i := 18) rfl)))
theorem q_99 : (Cond.code yX2_keepThere cX2_keepThere 6 none) ∈ cs_WS := List.mem_append_right _ (List.mem_append_right _ (List.mem_append_left _ (List.mem_of_getElem? (i := 19) rfl)))
theorem q_100 : (Cond.methodLink RX2 66 yX1_isStone) ∈ cs_WS := List.mem_append_right _ (List.mem_append_right _ (List.mem_append_left _ (List.mem_of_getElem? (i := 20) rfl)))
theorem q_101 : (Cond.instanceMethod yX1_isStone) ∈ cs_WS := List.mem_append_right _ (List.mem_append_right _ (List.mem_append_left _ (List.mem_of_getElem? (i := 21) rfl)))
theorem q_102 : (Cond.selects RX1 yX1_isStone yX1_isStone) ∈ cs_WS := List.mem_append_right _ (List.mem_append_right _ (List.mem_append_left _ (List.mem_of_getElem? (i := 22) rfl)))
theorem q_103 : (Cond.code yX2_dropStones cX2_dropStones 8 none) ∈ cs_WS := List.mem_append_right _ (List.mem_append_right _ (List.mem_append_left _ (List.mem_of_getElem? (i := 23) rfl)))
theorem q_104 : (Cond.methodLink RX2 70 yX1_newest) ∈ cs_WS := List.mem_append_right _ (List.mem_append_right _ (List.mem_append_left _ (List.mem_of_getElem? (i := 24) rfl)))
theorem q_105 : (Cond.instanceMethod yX1_newest) ∈ cs_WS := List.mem_append_right _ (List.mem_append_right _ (List.mem_append_left _ (List.mem_of_getElem? (i := 25) rfl)))
theorem q_106 : (Cond.selects RX1 yX1_newest yX1_newest) ∈ cs_WS := List.mem_append_right _ (List.mem_append_right _ (List.mem_append_left _ (List.mem_of_getElem? (i := 26) rfl)))
theorem q_107 : (Cond.methodLink RX2 73 yX1_find) ∈ cs_WS := List.mem_append_right _ (List.mem_append_right _ (List.mem_append_left _ (List.mem_of_getElem? (i := 27) rfl)))
theorem q_108 : (Cond.instanceMethod yX1_find) ∈ cs_WS := List.mem_append_right _ (List.mem_append_right _ (List.mem_append_left _ (List.mem_of_getElem? (i := 28) rfl)))
theorem q_109 : (Cond.selects RX1 yX1_find yX1_find) ∈ cs_WS := List.mem_append_right _ (List.mem_append_right _ (List.mem_append_left _ (List.mem_of_getElem? (i := 29) rfl)))
theorem q_110 : (Cond.methodLink RX2 77 yX3_cut) ∈ cs_WS := List.mem_append_right _ (List.mem_append_right _ (List.mem_append_left _ (List.mem_of_getElem? (i := 30) rfl)))
theorem q_111 : (Cond.code yX2_pieceEnd cX2_pieceEnd 6 (some .int)) ∈ cs_WS := List.mem_append_right _ (List.mem_append_right _ (List.mem_append_left _ (List.mem_of_getElem? (i := 31) rfl)))
theorem q_112 : (Cond.code yX3_raise cX3_raise 3 none) ∈ cs_WS := List.mem_append_right _ (List.mem_append_right _ (List.mem_append_left _ (List.mem_of_getElem? (i := 32) rfl)))
theorem q_113 : (Cond.code yX3_copy cX3_copy 3 none) ∈ cs_WS := List.mem_append_right _ (List.mem_append_right _ (List.mem_append_left _ (List.mem_of_getElem? (i := 33) rfl)))
theorem q_114 : (Cond.methodLink RX3 23 yX3_length) ∈ cs_WS := List.mem_append_right _ (List.mem_append_right _ (List.mem_append_left _ (List.mem_of_getElem? (i := 34) rfl)))
theorem q_115 : (Cond.methodLink RX3 27 yX3_at) ∈ cs_WS := List.mem_append_right _ (List.mem_append_right _ (List.mem_append_left _ (List.mem_of_getElem? (i := 35) rfl)))
theorem q_116 : (Cond.methodLink RX3 31 yX3_append) ∈ cs_WS := List.mem_append_right _ (List.mem_append_right _ (List.mem_append_left _ (List.mem_of_getElem? (i := 36) rfl)))
theorem q_117 : (Cond.code yX4_init cX4_init 2 none) ∈ cs_WS := List.mem_append_right _ (List.mem_append_right _ (List.mem_append_left _ (List.mem_of_getElem? (i := 37) rfl)))
theorem q_118 : (Cond.methodLink RX4 3 objectInit) ∈ cs_WS := List.mem_append_right _ (List.mem_append_right _ (List.mem_append_left _ (List.mem_of_getElem? (i := 38) rfl)))
theorem q_119 : (Cond.classLink RX4 9 RX3) ∈ cs_WS := List.mem_append_right _ (List.mem_append_right _ (List.mem_append_left _ (List.mem_of_getElem? (i := 39) rfl)))
theorem q_120 : (Cond.fieldLink RX4 14 "SiltStore$Shelf" "ages" "LSiltStore$Row;") ∈ cs_WS := List.mem_append_right _ (List.mem_append_right _ (List.mem_append_right _ (List.mem_append_left _ (List.mem_of_getElem? (i := 0) rfl))))
theorem q_121 : (Cond.fieldLink RX4 20 "SiltStore$Shelf" "ends" "LSiltStore$Row;") ∈ cs_WS := List.mem_append_right _ (List.mem_append_right _ (List.mem_append_right _ (List.mem_append_left _ (List.mem_of_getElem? (i := 1) rfl))))
theorem q_122 : (Cond.fieldLink RX4 23 "SiltStore$Shelf" "bits" "LSiltStore$Row;") ∈ cs_WS := List.mem_append_right _ (List.mem_append_right _ (List.mem_append_right _ (List.mem_append_left _ (List.mem_of_getElem? (i := 2) rfl))))
theorem q_123 : (Cond.fieldLink RX4 26 "SiltStore$Shelf" "hashes" "LSiltStore$Row;") ∈ cs_WS := List.mem_append_right _ (List.mem_append_right _ (List.mem_append_right _ (List.mem_append_left _ (List.mem_of_getElem? (i := 3) rfl))))
theorem q_124 : (Cond.fieldLink RX4 29 "SiltStore$Shelf" "lowBits" "LSiltStore$Row;") ∈ cs_WS := List.mem_append_right _ (List.mem_append_right _ (List.mem_append_right _ (List.mem_append_left _ (List.mem_of_getElem? (i := 4) rfl))))
theorem q_125 : (Cond.fieldLink RX4 32 "SiltStore$Shelf" "highBits" "LSiltStore$Row;") ∈ cs_WS := List.mem_append_right _ (List.mem_append_right _ (List.mem_append_right _ (List.mem_append_left _ (List.mem_of_getElem? (i := 5) rfl))))
theorem q_126 : (Cond.fieldLink RX4 35 "SiltStore$Shelf" "counts" "LSiltStore$Row;") ∈ cs_WS := List.mem_append_right _ (List.mem_append_right _ (List.mem_append_right _ (List.mem_append_left _ (List.mem_of_getElem? (i := 6) rfl))))
theorem q_127 : (Cond.fieldLink RX4 38 "SiltStore$Shelf" "ledger" "LSiltStore$Ledger;") ∈ cs_WS := List.mem_append_right _ (List.mem_append_right _ (List.mem_append_right _ (List.mem_append_left _ (List.mem_of_getElem? (i := 7) rfl))))
theorem q_128 : (Cond.methodLink RX4 11 yX3_init) ∈ cs_WS := List.mem_append_right _ (List.mem_append_right _ (List.mem_append_right _ (List.mem_append_left _ (List.mem_of_getElem? (i := 8) rfl))))
theorem q_129 : (Cond.code yX4_total cX4_total 1 (some .int)) ∈ cs_WS := List.mem_append_right _ (List.mem_append_right _ (List.mem_append_right _ (List.mem_append_left _ (List.mem_of_getElem? (i := 9) rfl))))
theorem q_130 : (Cond.methodLink RX4 42 yX3_length) ∈ cs_WS := List.mem_append_right _ (List.mem_append_right _ (List.mem_append_right _ (List.mem_append_left _ (List.mem_of_getElem? (i := 10) rfl))))
theorem q_131 : (Cond.code yX4_count cX4_count 2 (some .int)) ∈ cs_WS := List.mem_append_right _ (List.mem_append_right _ (List.mem_append_right _ (List.mem_append_left _ (List.mem_of_getElem? (i := 11) rfl))))
theorem q_132 : (Cond.methodLink RX4 46 yX3_at) ∈ cs_WS := List.mem_append_right _ (List.mem_append_right _ (List.mem_append_right _ (List.mem_append_left _ (List.mem_of_getElem? (i := 12) rfl))))
theorem q_133 : (Cond.code yX4_first cX4_first 4 (some .int)) ∈ cs_WS := List.mem_append_right _ (List.mem_append_right _ (List.mem_append_right _ (List.mem_append_left _ (List.mem_of_getElem? (i := 13) rfl))))
theorem q_134 : (Cond.code yX4_begin cX4_begin 2 (some .int)) ∈ cs_WS := List.mem_append_right _ (List.mem_append_right _ (List.mem_append_right _ (List.mem_append_left _ (List.mem_of_getElem? (i := 14) rfl))))
theorem q_135 : (Cond.code yX4_length cX4_length 2 (some .int)) ∈ cs_WS := List.mem_append_right _ (List.mem_append_right _ (List.mem_append_right _ (List.mem_append_left _ (List.mem_of_getElem? (i := 15) rfl))))
theorem q_136 : (Cond.methodLink RX4 50 yX4_begin) ∈ cs_WS := List.mem_append_right _ (List.mem_append_right _ (List.mem_append_right _ (List.mem_append_left _ (List.mem_of_getElem? (i := 16) rfl))))
theorem q_137 : (Cond.instanceMethod yX4_begin) ∈ cs_WS := List.mem_append_right _ (List.mem_append_right _ (List.mem_append_right _ (List.mem_append_left _ (List.mem_of_getElem? (i := 17) rfl))))
theorem q_138 : (Cond.selects RX4 yX4_begin yX4_begin) ∈ cs_WS := List.mem_append_right _ (List.mem_append_right _ (List.mem_append_right _ (List.mem_append_left _ (List.mem_of_getElem? (i := 18) rfl))))
theorem q_139 : (Cond.initialized RX4) ∈ cs_WS := List.mem_append_right _ (List.mem_append_right _ (List.mem_append_right _ (List.mem_append_left _ (List.mem_of_getElem? (i := 19) rfl))))
theorem q_140 : (Cond.code yX4_entriesOn cX4_entriesOn 2 (some .int)) ∈ cs_WS := List.mem_append_right _ (List.mem_append_right _ (List.mem_append_right _ (List.mem_append_left _ (List.mem_of_getElem? (i := 20) rfl))))
theorem q_141 : (Cond.methodLink RX4 53 yX4_first) ∈ cs_WS := List.mem_append_right _ (List.mem_append_right _ (List.mem_append_right _ (List.mem_append_left _ (List.mem_of_getElem? (i := 21) rfl))))
theorem q_142 : (Cond.instanceMethod yX4_first) ∈ cs_WS := List.mem_append_right _ (List.mem_append_right _ (List.mem_append_right _ (List.mem_append_left _ (List.mem_of_getElem? (i := 22) rfl))))
theorem q_143 : (Cond.selects RX4 yX4_first yX4_first) ∈ cs_WS := List.mem_append_right _ (List.mem_append_right _ (List.mem_append_right _ (List.mem_append_left _ (List.mem_of_getElem? (i := 23) rfl))))
theorem q_144 : (Cond.code yX4_age cX4_age 3 (some .int)) ∈ cs_WS := List.mem_append_right _ (List.mem_append_right _ (List.mem_append_right _ (List.mem_append_left _ (List.mem_of_getElem? (i := 24) rfl))))
theorem q_145 : (Cond.code yX4_least cX4_least 2 (some .int)) ∈ cs_WS := List.mem_append_right _ (List.mem_append_right _ (List.mem_append_right _ (List.mem_append_left _ (List.mem_of_getElem? (i := 25) rfl))))
theorem q_146 : (Cond.methodLink RX4 56 yX1_key) ∈ cs_WS := List.mem_append_right _ (List.mem_append_right _ (List.mem_append_right _ (List.mem_append_left _ (List.mem_of_getElem? (i := 26) rfl))))
theorem q_147 : (Cond.code yX4_greatest cX4_greatest 2 (some .int)) ∈ cs_WS := List.mem_append_right _ (List.mem_append_right _ (List.mem_append_right _ (List.mem_append_left _ (List.mem_of_getElem? (i := 27) rfl))))
theorem q_148 : (Cond.code yX4_spans cX4_spans 3 (some .boolean)) ∈ cs_WS := List.mem_append_right _ (List.mem_append_right _ (List.mem_append_right _ (List.mem_append_left _ (List.mem_of_getElem? (i := 28) rfl))))
theorem q_149 : (Cond.methodLink RX4 61 yX4_least) ∈ cs_WS := List.mem_append_right _ (List.mem_append_right _ (List.mem_append_right _ (List.mem_append_left _ (List.mem_of_getElem? (i := 29) rfl))))
theorem q_150 : (Cond.instanceMethod yX4_least) ∈ cs_WS := List.mem_append_right _ (List.mem_append_right _ (List.mem_append_right _ (List.mem_append_left _ (List.mem_of_getElem? (i := 30) rfl))))
theorem q_151 : (Cond.selects RX4 yX4_least yX4_least) ∈ cs_WS := List.mem_append_right _ (List.mem_append_right _ (List.mem_append_right _ (List.mem_append_left _ (List.mem_of_getElem? (i := 31) rfl))))
theorem q_152 : (Cond.methodLink RX4 64 yX4_greatest) ∈ cs_WS := List.mem_append_right _ (List.mem_append_right _ (List.mem_append_right _ (List.mem_append_left _ (List.mem_of_getElem? (i := 32) rfl))))
theorem q_153 : (Cond.instanceMethod yX4_greatest) ∈ cs_WS := List.mem_append_right _ (List.mem_append_right _ (List.mem_append_right _ (List.mem_append_left _ (List.mem_of_getElem? (i := 33) rfl))))
theorem q_154 : (Cond.selects RX4 yX4_greatest yX4_greatest) ∈ cs_WS := List.mem_append_right _ (List.mem_append_right _ (List.mem_append_right _ (List.mem_append_left _ (List.mem_of_getElem? (i := 34) rfl))))
theorem q_155 : (Cond.code yX4_find cX4_find 4 (some .int)) ∈ cs_WS := List.mem_append_right _ (List.mem_append_right _ (List.mem_append_right _ (List.mem_append_left _ (List.mem_of_getElem? (i := 35) rfl))))
theorem q_156 : (Cond.methodLink RX4 67 yX1_find) ∈ cs_WS := List.mem_append_right _ (List.mem_append_right _ (List.mem_append_right _ (List.mem_append_left _ (List.mem_of_getElem? (i := 36) rfl))))
theorem q_157 : (Cond.code yX4_leastOf cX4_leastOf 5 (some .int)) ∈ cs_WS := List.mem_append_right _ (List.mem_append_right _ (List.mem_append_right _ (List.mem_append_left _ (List.mem_of_getElem? (i := 37) rfl))))
theorem q_158 : (Cond.methodLink RX4 71 Lib.Math.min.name) ∈ cs_WS := List.mem_append_right _ (List.mem_append_right _ (List.mem_append_right _ (List.mem_append_left _ (List.mem_of_getElem? (i := 38) rfl))))
theorem q_159 : (Cond.static Lib.Math.min.name) ∈ cs_WS := List.mem_append_right _ (List.mem_append_right _ (List.mem_append_right _ (List.mem_append_left _ (List.mem_of_getElem? (i := 39) rfl))))
theorem q_160 : (Cond.initialized "java/lang/Math") ∈ cs_WS := List.mem_append_right _ (List.mem_append_right _ (List.mem_append_right _ (List.mem_append_right _ (List.mem_append_left _ (List.mem_of_getElem? (i := 0) rfl)))))
theorem q_161 : (Cond.code Lib.Math.min.name Lib.Math.min.code 2 (some .int)) ∈ cs_WS := List.mem_append_right _ (List.mem_append_right _ (List.mem_append_right _ (List.mem_append_right _ (List.mem_append_left _ (List.mem_of_getElem? (i := 1) rfl)))))
theorem q_162 : (Cond.code yX4_greatestOf cX4_greatestOf 5 (some .int)) ∈ cs_WS := List.mem_append_right _ (List.mem_append_right _ (List.mem_append_right _ (List.mem_append_right _ (List.mem_append_left _ (List.mem_of_getElem? (i := 2) rfl)))))
theorem q_163 : (Cond.methodLink RX4 77 Lib.Math.max.name) ∈ cs_WS := List.mem_append_right _ (List.mem_append_right _ (List.mem_append_right _ (List.mem_append_right _ (List.mem_append_left _ (List.mem_of_getElem? (i := 3) rfl)))))
theorem q_164 : (Cond.static Lib.Math.max.name) ∈ cs_WS := List.mem_append_right _ (List.mem_append_right _ (List.mem_append_right _ (List.mem_append_right _ (List.mem_append_left _ (List.mem_of_getElem? (i := 4) rfl)))))
theorem q_165 : (Cond.code Lib.Math.max.name Lib.Math.max.code 2 (some .int)) ∈ cs_WS := List.mem_append_right _ (List.mem_append_right _ (List.mem_append_right _ (List.mem_append_right _ (List.mem_append_left _ (List.mem_of_getElem? (i := 5) rfl)))))
theorem q_166 : (Cond.code yX4_firstBeyond cX4_firstBeyond 5 (some .int)) ∈ cs_WS := List.mem_append_right _ (List.mem_append_right _ (List.mem_append_right _ (List.mem_append_right _ (List.mem_append_left _ (List.mem_of_getElem? (i := 6) rfl)))))
theorem q_167 : (Cond.code yX4_firstReaching cX4_firstReaching 5 (some .int)) ∈ cs_WS := List.mem_append_right _ (List.mem_append_right _ (List.mem_append_right _ (List.mem_append_right _ (List.mem_append_left _ (List.mem_of_getElem? (i := 7) rfl)))))
theorem q_168 : (Cond.code yX4_bitsOf cX4_bitsOf 6 (some .long)) ∈ cs_WS := List.mem_append_right _ (List.mem_append_right _ (List.mem_append_right _ (List.mem_append_right _ (List.mem_append_left _ (List.mem_of_getElem? (i := 8) rfl)))))
theorem q_169 : (Cond.code yX4_openRun cX4_openRun 2 none) ∈ cs_WS := List.mem_append_right _ (List.mem_append_right _ (List.mem_append_right _ (List.mem_append_right _ (List.mem_append_left _ (List.mem_of_getElem? (i := 9) rfl)))))
theorem q_170 : (Cond.methodLink RX4 80 yX3_open) ∈ cs_WS := List.mem_append_right _ (List.mem_append_right _ (List.mem_append_right _ (List.mem_append_right _ (List.mem_append_left _ (List.mem_of_getElem? (i := 10) rfl)))))
theorem q_171 : (Cond.code yX4_insert cX4_insert 15 none) ∈ cs_WS := List.mem_append_right _ (List.mem_append_right _ (List.mem_append_right _ (List.mem_append_right _ (List.mem_append_left _ (List.mem_of_getElem? (i := 11) rfl)))))
theorem q_172 : (Cond.methodLink RX4 84 yX3_write) ∈ cs_WS := List.mem_append_right _ (List.mem_append_right _ (List.mem_append_right _ (List.mem_append_right _ (List.mem_append_left _ (List.mem_of_getElem? (i := 12) rfl)))))
theorem q_173 : (Cond.methodLink RX4 87 yX4_bitsOf) ∈ cs_WS := List.mem_append_right _ (List.mem_append_right _ (List.mem_append_right _ (List.mem_append_right _ (List.mem_append_left _ (List.mem_of_getElem? (i := 13) rfl)))))
theorem q_174 : (Cond.static yX4_bitsOf) ∈ cs_WS := List.mem_append_right _ (List.mem_append_right _ (List.mem_append_right _ (List.mem_append_right _ (List.mem_append_left _ (List.mem_of_getElem? (i := 14) rfl)))))
theorem q_175 : (Cond.methodLink RX4 91 yX4_openRun) ∈ cs_WS := List.mem_append_right _ (List.mem_append_right _ (List.mem_append_right _ (List.mem_append_right _ (List.mem_append_left _ (List.mem_of_getElem? (i := 15) rfl)))))
theorem q_176 : (Cond.instanceMethod yX4_openRun) ∈ cs_WS := List.mem_append_right _ (List.mem_append_right _ (List.mem_append_right _ (List.mem_append_right _ (List.mem_append_left _ (List.mem_of_getElem? (i := 16) rfl)))))
theorem q_177 : (Cond.selects RX4 yX4_openRun yX4_openRun) ∈ cs_WS := List.mem_append_right _ (List.mem_append_right _ (List.mem_append_right _ (List.mem_append_right _ (List.mem_append_left _ (List.mem_of_getElem? (i := 17) rfl)))))
theorem q_178 : (Cond.methodLink RX4 94 yX3_raise) ∈ cs_WS := List.mem_append_right _ (List.mem_append_right _ (List.mem_append_right _ (List.mem_append_right _ (List.mem_append_left _ (List.mem_of_getElem? (i := 18) rfl)))))
theorem q_179 : (Cond.instanceMethod yX3_raise) ∈ cs_WS := List.mem_append_right _ (List.mem_append_right _ (List.mem_append_right _ (List.mem_append_right _ (List.mem_append_left _ (List.mem_of_getElem? (i := 19) rfl)))))
theorem q_180 : (Cond.selects RX3 yX3_raise yX3_raise) ∈ cs_WS := List.mem_append_right _ (List.mem_append_right _ (List.mem_append_right _ (List.mem_append_right _ (List.mem_append_left _ (List.mem_of_getElem? (i := 20) rfl)))))
theorem q_181 : (Cond.code yX4_cut cX4_cut 10 none) ∈ cs_WS := List.mem_append_right _ (List.mem_append_right _ (List.mem_append_right _ (List.mem_append_right _ (List.mem_append_left _ (List.mem_of_getElem? (i := 21) rfl)))))
theorem q_182 : (Cond.methodLink RX4 97 yX3_cut) ∈ cs_WS := List.mem_append_right _ (List.mem_append_right _ (List.mem_append_right _ (List.mem_append_right _ (List.mem_append_left _ (List.mem_of_getElem? (i := 22) rfl)))))
theorem q_183 : (Cond.code yX4_filterOf cX4_filterOf 2 (some .long)) ∈ cs_WS := List.mem_append_right _ (List.mem_append_right _ (List.mem_append_right _ (List.mem_append_right _ (List.mem_append_left _ (List.mem_of_getElem? (i := 23) rfl)))))
theorem q_184 : (Cond.constantLong RX4 110 (4294967295)) ∈ cs_WS := List.mem_append_right _ (List.mem_append_right _ (List.mem_append_right _ (List.mem_append_right _ (List.mem_append_left _ (List.mem_of_getElem? (i := 24) rfl)))))
theorem q_185 : (Cond.code yX4_setBits cX4_setBits 2 (some .int)) ∈ cs_WS := List.mem_append_right _ (List.mem_append_right _ (List.mem_append_right _ (List.mem_append_right _ (List.mem_append_left _ (List.mem_of_getElem? (i := 25) rfl)))))
theorem q_186 : (Cond.methodLink RX4 100 yX4_filterOf) ∈ cs_WS := List.mem_append_right _ (List.mem_append_right _ (List.mem_append_right _ (List.mem_append_right _ (List.mem_append_left _ (List.mem_of_getElem? (i := 26) rfl)))))
theorem q_187 : (Cond.instanceMethod yX4_filterOf) ∈ cs_WS := List.mem_append_right _ (List.mem_append_right _ (List.mem_append_right _ (List.mem_append_right _ (List.mem_append_left _ (List.mem_of_getElem? (i := 27) rfl)))))
theorem q_188 : (Cond.selects RX4 yX4_filterOf yX4_filterOf) ∈ cs_WS := List.mem_append_right _ (List.mem_append_right _ (List.mem_append_right _ (List.mem_append_right _ (List.mem_append_left _ (List.mem_of_getElem? (i := 28) rfl)))))
theorem q_189 : (Cond.methodLink RX4 104 yJ13_bitCount_95d88) ∈ cs_WS := List.mem_append_right _ (List.mem_append_right _ (List.mem_append_right _ (List.mem_append_right _ (List.mem_append_left _ (List.mem_of_getElem? (i := 29) rfl)))))
theorem q_190 : (Cond.static yJ13_bitCount_95d88) ∈ cs_WS := List.mem_append_right _ (List.mem_append_right _ (List.mem_append_right _ (List.mem_append_right _ (List.mem_append_left _ (List.mem_of_getElem? (i := 30) rfl)))))
theorem q_191 : (Cond.initialized RJ13) ∈ cs_WS := List.mem_append_right _ (List.mem_append_right _ (List.mem_append_right _ (List.mem_append_right _ (List.mem_append_left _ (List.mem_of_getElem? (i := 31) rfl)))))
theorem q_192 : (Cond.code yJ13_bitCount_95d88 cJ13_bitCount_95d88 2 (some .int)) ∈ cs_WS := List.mem_append_right _ (List.mem_append_right _ (List.mem_append_right _ (List.mem_append_right _ (List.mem_append_left _ (List.mem_of_getElem? (i := 32) rfl)))))
theorem q_193 : (Cond.constantLong RJ13 314 (6148914691236517205)) ∈ cs_WS := List.mem_append_right _ (List.mem_append_right _ (List.mem_append_right _ (List.mem_append_right _ (List.mem_append_left _ (List.mem_of_getElem? (i := 33) rfl)))))
theorem q_194 : (Cond.constantLong RJ13 316 (3689348814741910323)) ∈ cs_WS := List.mem_append_right _ (List.mem_append_right _ (List.mem_append_right _ (List.mem_append_right _ (List.mem_append_left _ (List.mem_of_getElem? (i := 34) rfl)))))
theorem q_195 : (Cond.constantLong RJ13 318 (1085102592571150095)) ∈ cs_WS := List.mem_append_right _ (List.mem_append_right _ (List.mem_append_right _ (List.mem_append_right _ (List.mem_append_left _ (List.mem_of_getElem? (i := 35) rfl)))))
theorem q_196 : (Cond.code yX4_passes cX4_passes 5 (some .boolean)) ∈ cs_WS := List.mem_append_right _ (List.mem_append_right _ (List.mem_append_right _ (List.mem_append_right _ (List.mem_append_left _ (List.mem_of_getElem? (i := 36) rfl)))))
theorem q_197 : (Cond.code yX5_init cX5_init 1 none) ∈ cs_WS := List.mem_append_right _ (List.mem_append_right _ (List.mem_append_right _ (List.mem_append_right _ (List.mem_append_left _ (List.mem_of_getElem? (i := 37) rfl)))))
theorem q_198 : (Cond.methodLink RX5 3 objectInit) ∈ cs_WS := List.mem_append_right _ (List.mem_append_right _ (List.mem_append_right _ (List.mem_append_right _ (List.mem_append_left _ (List.mem_of_getElem? (i := 38) rfl)))))
theorem q_199 : (Cond.classLink RX5 9 RX3) ∈ cs_WS := List.mem_append_right _ (List.mem_append_right _ (List.mem_append_right _ (List.mem_append_right _ (List.mem_append_left _ (List.mem_of_getElem? (i := 39) rfl)))))
theorem q_200 : (Cond.fieldLink RX5 14 "SiltStore$Snapshots" "numbers" "LSiltStore$Row;") ∈ cs_WS := List.mem_append_right _ (List.mem_append_right _ (List.mem_append_right _ (List.mem_append_right _ (List.mem_append_right _ (List.mem_append_left _ (List.mem_of_getElem? (i := 0) rfl))))))
theorem q_201 : (Cond.methodLink RX5 11 yX3_init) ∈ cs_WS := List.mem_append_right _ (List.mem_append_right _ (List.mem_append_right _ (List.mem_append_right _ (List.mem_append_right _ (List.mem_append_left _ (List.mem_of_getElem? (i := 1) rfl))))))
theorem q_202 : (Cond.code yX5_there cX5_there 1 (some .int)) ∈ cs_WS := List.mem_append_right _ (List.mem_append_right _ (List.mem_append_right _ (List.mem_append_right _ (List.mem_append_right _ (List.mem_append_left _ (List.mem_of_getElem? (i := 2) rfl))))))
theorem q_203 : (Cond.code yX5_age cX5_age 2 (some .int)) ∈ cs_WS := List.mem_append_right _ (List.mem_append_right _ (List.mem_append_right _ (List.mem_append_right _ (List.mem_append_right _ (List.mem_append_left _ (List.mem_of_getElem? (i := 3) rfl))))))
theorem q_204 : (Cond.code yX5_take cX5_take 3 (some .int)) ∈ cs_WS := List.mem_append_right _ (List.mem_append_right _ (List.mem_append_right _ (List.mem_append_right _ (List.mem_append_right _ (List.mem_append_left _ (List.mem_of_getElem? (i := 4) rfl))))))
theorem q_205 : (Cond.fieldLink RX5 31 "SiltStore$Snapshots" "taken" "I") ∈ cs_WS := List.mem_append_right _ (List.mem_append_right _ (List.mem_append_right _ (List.mem_append_right _ (List.mem_append_right _ (List.mem_append_left _ (List.mem_of_getElem? (i := 5) rfl))))))
theorem q_206 : (Cond.methodLink RX5 35 yX3_append) ∈ cs_WS := List.mem_append_right _ (List.mem_append_right _ (List.mem_append_right _ (List.mem_append_right _ (List.mem_append_right _ (List.mem_append_left _ (List.mem_of_getElem? (i := 6) rfl))))))
theorem q_207 : (Cond.code yX5_placeOf cX5_placeOf 3 (some .int)) ∈ cs_WS := List.mem_append_right _ (List.mem_append_right _ (List.mem_append_right _ (List.mem_append_right _ (List.mem_append_right _ (List.mem_append_left _ (List.mem_of_getElem? (i := 7) rfl))))))
theorem q_208 : (Cond.code yX5_letGo cX5_letGo 2 none) ∈ cs_WS := List.mem_append_right _ (List.mem_append_right _ (List.mem_append_right _ (List.mem_append_right _ (List.mem_append_right _ (List.mem_append_left _ (List.mem_of_getElem? (i := 8) rfl))))))
theorem q_209 : (Cond.methodLink RX5 38 yX3_cut) ∈ cs_WS := List.mem_append_right _ (List.mem_append_right _ (List.mem_append_right _ (List.mem_append_right _ (List.mem_append_right _ (List.mem_append_left _ (List.mem_of_getElem? (i := 9) rfl))))))
theorem q_210 : (Cond.code yX5_loseAll cX5_loseAll 1 none) ∈ cs_WS := List.mem_append_right _ (List.mem_append_right _ (List.mem_append_right _ (List.mem_append_right _ (List.mem_append_right _ (List.mem_append_left _ (List.mem_of_getElem? (i := 10) rfl))))))
theorem q_211 : (Cond.methodLink RX5 42 yX3_empty) ∈ cs_WS := List.mem_append_right _ (List.mem_append_right _ (List.mem_append_right _ (List.mem_append_right _ (List.mem_append_right _ (List.mem_append_left _ (List.mem_of_getElem? (i := 11) rfl))))))
theorem q_212 : (Cond.code yX6_init cX6_init 4 none) ∈ cs_WS := List.mem_append_right _ (List.mem_append_right _ (List.mem_append_right _ (List.mem_append_right _ (List.mem_append_right _ (List.mem_append_left _ (List.mem_of_getElem? (i := 12) rfl))))))
theorem q_213 : (Cond.methodLink RX6 1 objectInit) ∈ cs_WS := List.mem_append_right _ (List.mem_append_right _ (List.mem_append_right _ (List.mem_append_right _ (List.mem_append_right _ (List.mem_append_left _ (List.mem_of_getElem? (i := 13) rfl))))))
theorem q_214 : (Cond.fieldLink RX6 7 "SiltStore" "room" "I") ∈ cs_WS := List.mem_append_right _ (List.mem_append_right _ (List.mem_append_right _ (List.mem_append_right _ (List.mem_append_right _ (List.mem_append_left _ (List.mem_of_getElem? (i := 14) rfl))))))
theorem q_215 : (Cond.fieldLink RX6 13 "SiltStore" "way" "I") ∈ cs_WS := List.mem_append_right _ (List.mem_append_right _ (List.mem_append_right _ (List.mem_append_right _ (List.mem_append_right _ (List.mem_append_left _ (List.mem_of_getElem? (i := 15) rfl))))))
theorem q_216 : (Cond.fieldLink RX6 16 "SiltStore" "fan" "I") ∈ cs_WS := List.mem_append_right _ (List.mem_append_right _ (List.mem_append_right _ (List.mem_append_right _ (List.mem_append_right _ (List.mem_append_left _ (List.mem_of_getElem? (i := 16) rfl))))))
theorem q_217 : (Cond.fieldLink RX6 19 "SiltStore" "piece" "I") ∈ cs_WS := List.mem_append_right _ (List.mem_append_right _ (List.mem_append_right _ (List.mem_append_right _ (List.mem_append_right _ (List.mem_append_left _ (List.mem_of_getElem? (i := 17) rfl))))))
theorem q_218 : (Cond.fieldLink RX6 22 "SiltStore" "bits" "I") ∈ cs_WS := List.mem_append_right _ (List.mem_append_right _ (List.mem_append_right _ (List.mem_append_right _ (List.mem_append_right _ (List.mem_append_left _ (List.mem_of_getElem? (i := 18) rfl))))))
theorem q_219 : (Cond.fieldLink RX6 25 "SiltStore" "hashes" "I") ∈ cs_WS := List.mem_append_right _ (List.mem_append_right _ (List.mem_append_right _ (List.mem_append_right _ (List.mem_append_right _ (List.mem_append_left _ (List.mem_of_getElem? (i := 19) rfl))))))
theorem q_220 : (Cond.fieldLink RX6 28 "SiltStore" "every" "I") ∈ cs_WS := List.mem_append_right _ (List.mem_append_right _ (List.mem_append_right _ (List.mem_append_right _ (List.mem_append_right _ (List.mem_append_left _ (List.mem_of_getElem? (i := 20) rfl))))))
theorem q_221 : (Cond.classLink RX6 31 RX3) ∈ cs_WS := List.mem_append_right _ (List.mem_append_right _ (List.mem_append_right _ (List.mem_append_right _ (List.mem_append_right _ (List.mem_append_left _ (List.mem_of_getElem? (i := 21) rfl))))))
theorem q_222 : (Cond.fieldLink RX6 36 "SiltStore" "tally" "LSiltStore$Row;") ∈ cs_WS := List.mem_append_right _ (List.mem_append_right _ (List.mem_append_right _ (List.mem_append_right _ (List.mem_append_right _ (List.mem_append_left _ (List.mem_of_getElem? (i := 22) rfl))))))
theorem q_223 : (Cond.fieldLink RX6 40 "SiltStore" "trial" "LSiltStore$Row;") ∈ cs_WS := List.mem_append_right _ (List.mem_append_right _ (List.mem_append_right _ (List.mem_append_right _ (List.mem_append_right _ (List.mem_append_left _ (List.mem_of_getElem? (i := 23) rfl))))))
theorem q_224 : (Cond.fieldLink RX6 43 "SiltStore" "marks" "LSiltStore$Row;") ∈ cs_WS := List.mem_append_right _ (List.mem_append_right _ (List.mem_append_right _ (List.mem_append_right _ (List.mem_append_right _ (List.mem_append_left _ (List.mem_of_getElem? (i := 24) rfl))))))
theorem q_225 : (Cond.classLink RX6 46 RX0) ∈ cs_WS := List.mem_append_right _ (List.mem_append_right _ (List.mem_append_right _ (List.mem_append_right _ (List.mem_append_right _ (List.mem_append_left _ (List.mem_of_getElem? (i := 25) rfl))))))
theorem q_226 : (Cond.instantiable RX0 3) ∈ cs_WS := List.mem_append_right _ (List.mem_append_right _ (List.mem_append_right _ (List.mem_append_right _ (List.mem_append_right _ (List.mem_append_left _ (List.mem_of_getElem? (i := 26) rfl))))))
theorem q_227 : (Cond.initialized RX0) ∈ cs_WS := List.mem_append_right _ (List.mem_append_right _ (List.mem_append_right _ (List.mem_append_right _ (List.mem_append_right _ (List.mem_append_left _ (List.mem_of_getElem? (i := 27) rfl))))))
theorem q_228 : (Cond.fieldLink RX6 49 "SiltStore" "front" "LSiltStore$Hand;") ∈ cs_WS := List.mem_append_right _ (List.mem_append_right _ (List.mem_append_right _ (List.mem_append_right _ (List.mem_append_right _ (List.mem_append_left _ (List.mem_of_getElem? (i := 28) rfl))))))
theorem q_229 : (Cond.classLink RX6 53 RX1) ∈ cs_WS := List.mem_append_right _ (List.mem_append_right _ (List.mem_append_right _ (List.mem_append_right _ (List.mem_append_right _ (List.mem_append_left _ (List.mem_of_getElem? (i := 29) rfl))))))
theorem q_230 : (Cond.instantiable RX1 3) ∈ cs_WS := List.mem_append_right _ (List.mem_append_right _ (List.mem_append_right _ (List.mem_append_right _ (List.mem_append_right _ (List.mem_append_left _ (List.mem_of_getElem? (i := 30) rfl))))))
theorem q_231 : (Cond.classLink RX6 56 RX5) ∈ cs_WS := List.mem_append_right _ (List.mem_append_right _ (List.mem_append_right _ (List.mem_append_right _ (List.mem_append_right _ (List.mem_append_left _ (List.mem_of_getElem? (i := 31) rfl))))))
theorem q_232 : (Cond.instantiable RX5 3) ∈ cs_WS := List.mem_append_right _ (List.mem_append_right _ (List.mem_append_right _ (List.mem_append_right _ (List.mem_append_right _ (List.mem_append_left _ (List.mem_of_getElem? (i := 32) rfl))))))
theorem q_233 : (Cond.fieldLink RX6 59 "SiltStore" "ledger" "LSiltStore$Ledger;") ∈ cs_WS := List.mem_append_right _ (List.mem_append_right _ (List.mem_append_right _ (List.mem_append_right _ (List.mem_append_right _ (List.mem_append_left _ (List.mem_of_getElem? (i := 33) rfl))))))
theorem q_234 : (Cond.fieldLink RX6 63 "SiltStore" "views" "LSiltStore$Snapshots;") ∈ cs_WS := List.mem_append_right _ (List.mem_append_right _ (List.mem_append_right _ (List.mem_append_right _ (List.mem_append_right _ (List.mem_append_left _ (List.mem_of_getElem? (i := 34) rfl))))))
theorem q_235 : (Cond.classLink RX6 67 RX4) ∈ cs_WS := List.mem_append_right _ (List.mem_append_right _ (List.mem_append_right _ (List.mem_append_right _ (List.mem_append_right _ (List.mem_append_left _ (List.mem_of_getElem? (i := 35) rfl))))))
theorem q_236 : (Cond.instantiable RX4 8) ∈ cs_WS := List.mem_append_right _ (List.mem_append_right _ (List.mem_append_right _ (List.mem_append_right _ (List.mem_append_right _ (List.mem_append_left _ (List.mem_of_getElem? (i := 36) rfl))))))
theorem q_237 : (Cond.fieldLink RX6 72 "SiltStore" "shelf" "LSiltStore$Shelf;") ∈ cs_WS := List.mem_append_right _ (List.mem_append_right _ (List.mem_append_right _ (List.mem_append_right _ (List.mem_append_right _ (List.mem_append_left _ (List.mem_of_getElem? (i := 37) rfl))))))
theorem q_238 : (Cond.classLink RX6 76 RX2) ∈ cs_WS := List.mem_append_right _ (List.mem_append_right _ (List.mem_append_right _ (List.mem_append_right _ (List.mem_append_right _ (List.mem_append_left _ (List.mem_of_getElem? (i := 38) rfl))))))
theorem q_239 : (Cond.instantiable RX2 4) ∈ cs_WS := List.mem_append_right _ (List.mem_append_right _ (List.mem_append_right _ (List.mem_append_right _ (List.mem_append_right _ (List.mem_append_left _ (List.mem_of_getElem? (i := 39) rfl))))))
theorem q_240 : (Cond.initialized RX2) ∈ cs_WS := List.mem_append_right _ (List.mem_append_right _ (List.mem_append_right _ (List.mem_append_right _ (List.mem_append_right _ (List.mem_append_right _ (List.mem_append_left _ (List.mem_of_getElem? (i := 0) rfl)))))))
theorem q_241 : (Cond.fieldLink RX6 81 "SiltStore" "pile" "LSiltStore$Pile;") ∈ cs_WS := List.mem_append_right _ (List.mem_append_right _ (List.mem_append_right _ (List.mem_append_right _ (List.mem_append_right _ (List.mem_append_right _ (List.mem_append_left _ (List.mem_of_getElem? (i := 1) rfl)))))))
theorem q_242 : (Cond.methodLink RX6 33 yX3_init) ∈ cs_WS := List.mem_append_right _ (List.mem_append_right _ (List.mem_append_right _ (List.mem_append_right _ (List.mem_append_right _ (List.mem_append_right _ (List.mem_append_left _ (List.mem_of_getElem? (i := 2) rfl)))))))
theorem q_243 : (Cond.instanceMethod yX0_init) ∈ cs_WS := List.mem_append_right _ (List.mem_append_right _ (List.mem_append_right _ (List.mem_append_right _ (List.mem_append_right _ (List.mem_append_right _ (List.mem_append_left _ (List.mem_of_getElem? (i := 3) rfl)))))))
theorem q_244 : (Cond.instanceMethod yX1_init) ∈ cs_WS := List.mem_append_right _ (List.mem_append_right _ (List.mem_append_right _ (List.mem_append_right _ (List.mem_append_right _ (List.mem_append_right _ (List.mem_append_left _ (List.mem_of_getElem? (i := 4) rfl)))))))
theorem q_245 : (Cond.instanceMethod yX5_init) ∈ cs_WS := List.mem_append_right _ (List.mem_append_right _ (List.mem_append_right _ (List.mem_append_right _ (List.mem_append_right _ (List.mem_append_right _ (List.mem_append_left _ (List.mem_of_getElem? (i := 5) rfl)))))))
theorem q_246 : (Cond.methodLink RX6 69 yX4_init) ∈ cs_WS := List.mem_append_right _ (List.mem_append_right _ (List.mem_append_right _ (List.mem_append_right _ (List.mem_append_right _ (List.mem_append_right _ (List.mem_append_left _ (List.mem_of_getElem? (i := 6) rfl)))))))
theorem q_247 : (Cond.instanceMethod yX4_init) ∈ cs_WS := List.mem_append_right _ (List.mem_append_right _ (List.mem_append_right _ (List.mem_append_right _ (List.mem_append_right _ (List.mem_append_right _ (List.mem_append_left _ (List.mem_of_getElem? (i := 7) rfl)))))))
theorem q_248 : (Cond.methodLink RX6 78 yX2_init) ∈ cs_WS := List.mem_append_right _ (List.mem_append_right _ (List.mem_append_right _ (List.mem_append_right _ (List.mem_append_right _ (List.mem_append_right _ (List.mem_append_left _ (List.mem_of_getElem? (i := 8) rfl)))))))
theorem q_249 : (Cond.instanceMethod yX2_init) ∈ cs_WS := List.mem_append_right _ (List.mem_append_right _ (List.mem_append_right _ (List.mem_append_right _ (List.mem_append_right _ (List.mem_append_right _ (List.mem_append_left _ (List.mem_of_getElem? (i := 9) rfl)))))))
theorem q_250 : (Cond.methodLink RX6 85 yX3_write) ∈ cs_WS := List.mem_append_right _ (List.mem_append_right _ (List.mem_append_right _ (List.mem_append_right _ (List.mem_append_right _ (List.mem_append_right _ (List.mem_append_left _ (List.mem_of_getElem? (i := 10) rfl)))))))
theorem q_251 : (Cond.code yX6_setRoom cX6_setRoom 3 (some .int)) ∈ cs_WS := List.mem_append_right _ (List.mem_append_right _ (List.mem_append_right _ (List.mem_append_right _ (List.mem_append_right _ (List.mem_append_right _ (List.mem_append_left _ (List.mem_of_getElem? (i := 11) rfl)))))))
theorem q_252 : (Cond.classLink RX6 89 "java/lang/IllegalArgumentException") ∈ cs_WS := List.mem_append_right _ (List.mem_append_right _ (List.mem_append_right _ (List.mem_append_right _ (List.mem_append_right _ (List.mem_append_right _ (List.mem_append_left _ (List.mem_of_getElem? (i := 12) rfl)))))))
theorem q_253 : (Cond.initialized "java/lang/IllegalArgumentException") ∈ cs_WS := List.mem_append_right _ (List.mem_append_right _ (List.mem_append_right _ (List.mem_append_right _ (List.mem_append_right _ (List.mem_append_right _ (List.mem_append_left _ (List.mem_of_getElem? (i := 13) rfl)))))))
theorem q_254 : (Cond.code yX6_setWay cX6_setWay 5 (some .int)) ∈ cs_WS := List.mem_append_right _ (List.mem_append_right _ (List.mem_append_right _ (List.mem_append_right _ (List.mem_append_right _ (List.mem_append_right _ (List.mem_append_left _ (List.mem_of_getElem? (i := 14) rfl)))))))
theorem q_255 : (Cond.classLink RX6 106 "java/lang/IllegalStateException") ∈ cs_WS := List.mem_append_right _ (List.mem_append_right _ (List.mem_append_right _ (List.mem_append_right _ (List.mem_append_right _ (List.mem_append_right _ (List.mem_append_left _ (List.mem_of_getElem? (i := 15) rfl)))))))
theorem q_256 : (Cond.initialized "java/lang/IllegalStateException") ∈ cs_WS := List.mem_append_right _ (List.mem_append_right _ (List.mem_append_right _ (List.mem_append_right _ (List.mem_append_right _ (List.mem_append_right _ (List.mem_append_left _ (List.mem_of_getElem? (i := 16) rfl)))))))
theorem q_257 : (Cond.methodLink RX6 102 yX4_total) ∈ cs_WS := List.mem_append_right _ (List.mem_append_right _ (List.mem_append_right _ (List.mem_append_right _ (List.mem_append_right _ (List.mem_append_right _ (List.mem_append_left _ (List.mem_of_getElem? (i := 17) rfl)))))))
theorem q_258 : (Cond.instanceMethod yX4_total) ∈ cs_WS := List.mem_append_right _ (List.mem_append_right _ (List.mem_append_right _ (List.mem_append_right _ (List.mem_append_right _ (List.mem_append_right _ (List.mem_append_left _ (List.mem_of_getElem? (i := 18) rfl)))))))
theorem q_259 : (Cond.selects RX4 yX4_total yX4_total) ∈ cs_WS := List.mem_append_right _ (List.mem_append_right _ (List.mem_append_right _ (List.mem_append_right _ (List.mem_append_right _ (List.mem_append_right _ (List.mem_append_left _ (List.mem_of_getElem? (i := 19) rfl)))))))
theorem q_260 : (Cond.code yX6_setFilter cX6_setFilter 4 (some .int)) ∈ cs_WS := List.mem_append_right _ (List.mem_append_right _ (List.mem_append_right _ (List.mem_append_right _ (List.mem_append_right _ (List.mem_append_right _ (List.mem_append_left _ (List.mem_of_getElem? (i := 20) rfl)))))))
theorem q_261 : (Cond.code yX6_setEvery cX6_setEvery 3 (some .int)) ∈ cs_WS := List.mem_append_right _ (List.mem_append_right _ (List.mem_append_right _ (List.mem_append_right _ (List.mem_append_right _ (List.mem_append_right _ (List.mem_append_left _ (List.mem_of_getElem? (i := 21) rfl)))))))
theorem q_262 : (Cond.code yX6_checkKey cX6_checkKey 1 none) ∈ cs_WS := List.mem_append_right _ (List.mem_append_right _ (List.mem_append_right _ (List.mem_append_right _ (List.mem_append_right _ (List.mem_append_right _ (List.mem_append_left _ (List.mem_of_getElem? (i := 22) rfl)))))))
theorem q_263 : (Cond.code yX6_fillHand cX6_fillHand 1 none) ∈ cs_WS := List.mem_append_right _ (List.mem_append_right _ (List.mem_append_right _ (List.mem_append_right _ (List.mem_append_right _ (List.mem_append_right _ (List.mem_append_left _ (List.mem_of_getElem? (i := 23) rfl)))))))
theorem q_264 : (Cond.methodLink RX6 320 yX2_begin) ∈ cs_WS := List.mem_append_right _ (List.mem_append_right _ (List.mem_append_right _ (List.mem_append_right _ (List.mem_append_right _ (List.mem_append_right _ (List.mem_append_left _ (List.mem_of_getElem? (i := 24) rfl)))))))
theorem q_265 : (Cond.instanceMethod yX2_begin) ∈ cs_WS := List.mem_append_right _ (List.mem_append_right _ (List.mem_append_right _ (List.mem_append_right _ (List.mem_append_right _ (List.mem_append_right _ (List.mem_append_left _ (List.mem_of_getElem? (i := 25) rfl)))))))
theorem q_266 : (Cond.selects RX2 yX2_begin yX2_begin) ∈ cs_WS := List.mem_append_right _ (List.mem_append_right _ (List.mem_append_right _ (List.mem_append_right _ (List.mem_append_right _ (List.mem_append_right _ (List.mem_append_left _ (List.mem_of_getElem? (i := 26) rfl)))))))
theorem q_267 : (Cond.methodLink RX6 137 yX3_length) ∈ cs_WS := List.mem_append_right _ (List.mem_append_right _ (List.mem_append_right _ (List.mem_append_right _ (List.mem_append_right _ (List.mem_append_right _ (List.mem_append_left _ (List.mem_of_getElem? (i := 27) rfl)))))))
theorem q_268 : (Cond.methodLink RX6 323 yX2_gather) ∈ cs_WS := List.mem_append_right _ (List.mem_append_right _ (List.mem_append_right _ (List.mem_append_right _ (List.mem_append_right _ (List.mem_append_right _ (List.mem_append_left _ (List.mem_of_getElem? (i := 28) rfl)))))))
theorem q_269 : (Cond.instanceMethod yX2_gather) ∈ cs_WS := List.mem_append_right _ (List.mem_append_right _ (List.mem_append_right _ (List.mem_append_right _ (List.mem_append_right _ (List.mem_append_right _ (List.mem_append_left _ (List.mem_of_getElem? (i := 29) rfl)))))))
theorem q_270 : (Cond.selects RX2 yX2_gather yX2_gather) ∈ cs_WS := List.mem_append_right _ (List.mem_append_right _ (List.mem_append_right _ (List.mem_append_right _ (List.mem_append_right _ (List.mem_append_right _ (List.mem_append_left _ (List.mem_of_getElem? (i := 30) rfl)))))))
theorem q_271 : (Cond.methodLink RX6 327 yX2_keepNeeded) ∈ cs_WS := List.mem_append_right _ (List.mem_append_right _ (List.mem_append_right _ (List.mem_append_right _ (List.mem_append_right _ (List.mem_append_right _ (List.mem_append_left _ (List.mem_of_getElem? (i := 31) rfl)))))))
theorem q_272 : (Cond.instanceMethod yX2_keepNeeded) ∈ cs_WS := List.mem_append_right _ (List.mem_append_right _ (List.mem_append_right _ (List.mem_append_right _ (List.mem_append_right _ (List.mem_append_right _ (List.mem_append_left _ (List.mem_of_getElem? (i := 32) rfl)))))))
theorem q_273 : (Cond.selects RX2 yX2_keepNeeded yX2_keepNeeded) ∈ cs_WS := List.mem_append_right _ (List.mem_append_right _ (List.mem_append_right _ (List.mem_append_right _ (List.mem_append_right _ (List.mem_append_right _ (List.mem_append_left _ (List.mem_of_getElem? (i := 33) rfl)))))))
theorem q_274 : (Cond.methodLink RX6 333 yX3_copy) ∈ cs_WS := List.mem_append_right _ (List.mem_append_right _ (List.mem_append_right _ (List.mem_append_right _ (List.mem_append_right _ (List.mem_append_right _ (List.mem_append_left _ (List.mem_of_getElem? (i := 34) rfl)))))))
theorem q_275 : (Cond.instanceMethod yX3_copy) ∈ cs_WS := List.mem_append_right _ (List.mem_append_right _ (List.mem_append_right _ (List.mem_append_right _ (List.mem_append_right _ (List.mem_append_right _ (List.mem_append_left _ (List.mem_of_getElem? (i := 35) rfl)))))))
theorem q_276 : (Cond.selects RX3 yX3_copy yX3_copy) ∈ cs_WS := List.mem_append_right _ (List.mem_append_right _ (List.mem_append_right _ (List.mem_append_right _ (List.mem_append_right _ (List.mem_append_right _ (List.mem_append_left _ (List.mem_of_getElem? (i := 36) rfl)))))))
theorem q_277 : (Cond.code yX6_layHand cX6_layHand 2 none) ∈ cs_WS := List.mem_append_right _ (List.mem_append_right _ (List.mem_append_right _ (List.mem_append_right _ (List.mem_append_right _ (List.mem_append_right _ (List.mem_append_left _ (List.mem_of_getElem? (i := 37) rfl)))))))
theorem q_278 : (Cond.methodLink RX6 337 yX4_insert) ∈ cs_WS := List.mem_append_right _ (List.mem_append_right _ (List.mem_append_right _ (List.mem_append_right _ (List.mem_append_right _ (List.mem_append_right _ (List.mem_append_left _ (List.mem_of_getElem? (i := 38) rfl)))))))
theorem q_279 : (Cond.instanceMethod yX4_insert) ∈ cs_WS := List.mem_append_right _ (List.mem_append_right _ (List.mem_append_right _ (List.mem_append_right _ (List.mem_append_right _ (List.mem_append_right _ (List.mem_append_left _ (List.mem_of_getElem? (i := 39) rfl)))))))
theorem q_280 : (Cond.selects RX4 yX4_insert yX4_insert) ∈ cs_WS := List.mem_append_right _ (List.mem_append_right _ (List.mem_append_right _ (List.mem_append_right _ (List.mem_append_right _ (List.mem_append_right _ (List.mem_append_right _ (List.mem_append_left _ (List.mem_of_getElem? (i := 0) rfl))))))))
theorem q_281 : (Cond.methodLink RX6 163 yX3_raise) ∈ cs_WS := List.mem_append_right _ (List.mem_append_right _ (List.mem_append_right _ (List.mem_append_right _ (List.mem_append_right _ (List.mem_append_right _ (List.mem_append_right _ (List.mem_append_left _ (List.mem_of_getElem? (i := 1) rfl))))))))
theorem q_282 : (Cond.methodLink RX6 341 yX0_empty) ∈ cs_WS := List.mem_append_right _ (List.mem_append_right _ (List.mem_append_right _ (List.mem_append_right _ (List.mem_append_right _ (List.mem_append_right _ (List.mem_append_right _ (List.mem_append_left _ (List.mem_of_getElem? (i := 2) rfl))))))))
theorem q_283 : (Cond.instanceMethod yX0_empty) ∈ cs_WS := List.mem_append_right _ (List.mem_append_right _ (List.mem_append_right _ (List.mem_append_right _ (List.mem_append_right _ (List.mem_append_right _ (List.mem_append_right _ (List.mem_append_left _ (List.mem_of_getElem? (i := 3) rfl))))))))
theorem q_284 : (Cond.selects RX0 yX0_empty yX0_empty) ∈ cs_WS := List.mem_append_right _ (List.mem_append_right _ (List.mem_append_right _ (List.mem_append_right _ (List.mem_append_right _ (List.mem_append_right _ (List.mem_append_right _ (List.mem_append_left _ (List.mem_of_getElem? (i := 4) rfl))))))))
theorem q_285 : (Cond.code yX6_write cX6_write 4 (some .int)) ∈ cs_WS := List.mem_append_right _ (List.mem_append_right _ (List.mem_append_right _ (List.mem_append_right _ (List.mem_append_right _ (List.mem_append_right _ (List.mem_append_right _ (List.mem_append_left _ (List.mem_of_getElem? (i := 5) rfl))))))))
theorem q_286 : (Cond.methodLink RX6 310 yX1_isFull) ∈ cs_WS := List.mem_append_right _ (List.mem_append_right _ (List.mem_append_right _ (List.mem_append_right _ (List.mem_append_right _ (List.mem_append_right _ (List.mem_append_right _ (List.mem_append_left _ (List.mem_of_getElem? (i := 6) rfl))))))))
theorem q_287 : (Cond.instanceMethod yX1_isFull) ∈ cs_WS := List.mem_append_right _ (List.mem_append_right _ (List.mem_append_right _ (List.mem_append_right _ (List.mem_append_right _ (List.mem_append_right _ (List.mem_append_right _ (List.mem_append_left _ (List.mem_of_getElem? (i := 7) rfl))))))))
theorem q_288 : (Cond.selects RX1 yX1_isFull yX1_isFull) ∈ cs_WS := List.mem_append_right _ (List.mem_append_right _ (List.mem_append_right _ (List.mem_append_right _ (List.mem_append_right _ (List.mem_append_right _ (List.mem_append_right _ (List.mem_append_left _ (List.mem_of_getElem? (i := 8) rfl))))))))
theorem q_289 : (Cond.methodLink RX6 314 yX1_note) ∈ cs_WS := List.mem_append_right _ (List.mem_append_right _ (List.mem_append_right _ (List.mem_append_right _ (List.mem_append_right _ (List.mem_append_right _ (List.mem_append_right _ (List.mem_append_left _ (List.mem_of_getElem? (i := 9) rfl))))))))
theorem q_290 : (Cond.instanceMethod yX1_note) ∈ cs_WS := List.mem_append_right _ (List.mem_append_right _ (List.mem_append_right _ (List.mem_append_right _ (List.mem_append_right _ (List.mem_append_right _ (List.mem_append_right _ (List.mem_append_left _ (List.mem_of_getElem? (i := 10) rfl))))))))
theorem q_291 : (Cond.selects RX1 yX1_note yX1_note) ∈ cs_WS := List.mem_append_right _ (List.mem_append_right _ (List.mem_append_right _ (List.mem_append_right _ (List.mem_append_right _ (List.mem_append_right _ (List.mem_append_right _ (List.mem_append_left _ (List.mem_of_getElem? (i := 11) rfl))))))))
theorem q_292 : (Cond.methodLink RX6 317 yX3_append) ∈ cs_WS := List.mem_append_right _ (List.mem_append_right _ (List.mem_append_right _ (List.mem_append_right _ (List.mem_append_right _ (List.mem_append_right _ (List.mem_append_right _ (List.mem_append_left _ (List.mem_of_getElem? (i := 12) rfl))))))))
theorem q_293 : (Cond.methodLink RX6 131 yX0_makeSafe) ∈ cs_WS := List.mem_append_right _ (List.mem_append_right _ (List.mem_append_right _ (List.mem_append_right _ (List.mem_append_right _ (List.mem_append_right _ (List.mem_append_right _ (List.mem_append_left _ (List.mem_of_getElem? (i := 13) rfl))))))))
theorem q_294 : (Cond.instanceMethod yX0_makeSafe) ∈ cs_WS := List.mem_append_right _ (List.mem_append_right _ (List.mem_append_right _ (List.mem_append_right _ (List.mem_append_right _ (List.mem_append_right _ (List.mem_append_right _ (List.mem_append_left _ (List.mem_of_getElem? (i := 14) rfl))))))))
theorem q_295 : (Cond.selects RX0 yX0_makeSafe yX0_makeSafe) ∈ cs_WS := List.mem_append_right _ (List.mem_append_right _ (List.mem_append_right _ (List.mem_append_right _ (List.mem_append_right _ (List.mem_append_right _ (List.mem_append_right _ (List.mem_append_left _ (List.mem_of_getElem? (i := 15) rfl))))))))
theorem q_296 : (Cond.methodLink RX6 175 yX6_fillHand) ∈ cs_WS := List.mem_append_right _ (List.mem_append_right _ (List.mem_append_right _ (List.mem_append_right _ (List.mem_append_right _ (List.mem_append_right _ (List.mem_append_right _ (List.mem_append_left _ (List.mem_of_getElem? (i := 16) rfl))))))))
theorem q_297 : (Cond.instanceMethod yX6_fillHand) ∈ cs_WS := List.mem_append_right _ (List.mem_append_right _ (List.mem_append_right _ (List.mem_append_right _ (List.mem_append_right _ (List.mem_append_right _ (List.mem_append_right _ (List.mem_append_left _ (List.mem_of_getElem? (i := 17) rfl))))))))
theorem q_298 : (Cond.selects RX6 yX6_fillHand yX6_fillHand) ∈ cs_WS := List.mem_append_right _ (List.mem_append_right _ (List.mem_append_right _ (List.mem_append_right _ (List.mem_append_right _ (List.mem_append_right _ (List.mem_append_right _ (List.mem_append_left _ (List.mem_of_getElem? (i := 18) rfl))))))))
theorem q_299 : (Cond.initialized RX6) ∈ cs_WS := List.mem_append_right _ (List.mem_append_right _ (List.mem_append_right _ (List.mem_append_right _ (List.mem_append_right _ (List.mem_append_right _ (List.mem_append_right _ (List.mem_append_left _ (List.mem_of_getElem? (i := 19) rfl))))))))
theorem q_300 : (Cond.methodLink RX6 140 yX6_layHand) ∈ cs_WS := List.mem_append_right _ (List.mem_append_right _ (List.mem_append_right _ (List.mem_append_right _ (List.mem_append_right _ (List.mem_append_right _ (List.mem_append_right _ (List.mem_append_left _ (List.mem_of_getElem? (i := 20) rfl))))))))
theorem q_301 : (Cond.instanceMethod yX6_layHand) ∈ cs_WS := List.mem_append_right _ (List.mem_append_right _ (List.mem_append_right _ (List.mem_append_right _ (List.mem_append_right _ (List.mem_append_right _ (List.mem_append_right _ (List.mem_append_left _ (List.mem_of_getElem? (i := 21) rfl))))))))
theorem q_302 : (Cond.selects RX6 yX6_layHand yX6_layHand) ∈ cs_WS := List.mem_append_right _ (List.mem_append_right _ (List.mem_append_right _ (List.mem_append_right _ (List.mem_append_right _ (List.mem_append_right _ (List.mem_append_right _ (List.mem_append_left _ (List.mem_of_getElem? (i := 22) rfl))))))))
theorem q_303 : (Cond.code yX6_isFull cX6_isFull 2 (some .boolean)) ∈ cs_WS := List.mem_append_right _ (List.mem_append_right _ (List.mem_append_right _ (List.mem_append_right _ (List.mem_append_right _ (List.mem_append_right _ (List.mem_append_right _ (List.mem_append_left _ (List.mem_of_getElem? (i := 23) rfl))))))))
theorem q_304 : (Cond.methodLink RX6 156 yX4_count) ∈ cs_WS := List.mem_append_right _ (List.mem_append_right _ (List.mem_append_right _ (List.mem_append_right _ (List.mem_append_right _ (List.mem_append_right _ (List.mem_append_right _ (List.mem_append_left _ (List.mem_of_getElem? (i := 24) rfl))))))))
theorem q_305 : (Cond.instanceMethod yX4_count) ∈ cs_WS := List.mem_append_right _ (List.mem_append_right _ (List.mem_append_right _ (List.mem_append_right _ (List.mem_append_right _ (List.mem_append_right _ (List.mem_append_right _ (List.mem_append_left _ (List.mem_of_getElem? (i := 25) rfl))))))))
theorem q_306 : (Cond.selects RX4 yX4_count yX4_count) ∈ cs_WS := List.mem_append_right _ (List.mem_append_right _ (List.mem_append_right _ (List.mem_append_right _ (List.mem_append_right _ (List.mem_append_right _ (List.mem_append_right _ (List.mem_append_left _ (List.mem_of_getElem? (i := 26) rfl))))))))
theorem q_307 : (Cond.methodLink RX6 362 yX4_entriesOn) ∈ cs_WS := List.mem_append_right _ (List.mem_append_right _ (List.mem_append_right _ (List.mem_append_right _ (List.mem_append_right _ (List.mem_append_right _ (List.mem_append_right _ (List.mem_append_left _ (List.mem_of_getElem? (i := 27) rfl))))))))
theorem q_308 : (Cond.instanceMethod yX4_entriesOn) ∈ cs_WS := List.mem_append_right _ (List.mem_append_right _ (List.mem_append_right _ (List.mem_append_right _ (List.mem_append_right _ (List.mem_append_right _ (List.mem_append_right _ (List.mem_append_left _ (List.mem_of_getElem? (i := 28) rfl))))))))
theorem q_309 : (Cond.selects RX4 yX4_entriesOn yX4_entriesOn) ∈ cs_WS := List.mem_append_right _ (List.mem_append_right _ (List.mem_append_right _ (List.mem_append_right _ (List.mem_append_right _ (List.mem_append_right _ (List.mem_append_right _ (List.mem_append_left _ (List.mem_of_getElem? (i := 29) rfl))))))))
theorem q_310 : (Cond.code yX6_firstFull cX6_firstFull 2 (some .int)) ∈ cs_WS := List.mem_append_right _ (List.mem_append_right _ (List.mem_append_right _ (List.mem_append_right _ (List.mem_append_right _ (List.mem_append_right _ (List.mem_append_right _ (List.mem_append_left _ (List.mem_of_getElem? (i := 30) rfl))))))))
theorem q_311 : (Cond.methodLink RX6 360 yX6_isFull) ∈ cs_WS := List.mem_append_right _ (List.mem_append_right _ (List.mem_append_right _ (List.mem_append_right _ (List.mem_append_right _ (List.mem_append_right _ (List.mem_append_right _ (List.mem_append_left _ (List.mem_of_getElem? (i := 31) rfl))))))))
theorem q_312 : (Cond.instanceMethod yX6_isFull) ∈ cs_WS := List.mem_append_right _ (List.mem_append_right _ (List.mem_append_right _ (List.mem_append_right _ (List.mem_append_right _ (List.mem_append_right _ (List.mem_append_right _ (List.mem_append_left _ (List.mem_of_getElem? (i := 32) rfl))))))))
theorem q_313 : (Cond.selects RX6 yX6_isFull yX6_isFull) ∈ cs_WS := List.mem_append_right _ (List.mem_append_right _ (List.mem_append_right _ (List.mem_append_right _ (List.mem_append_right _ (List.mem_append_right _ (List.mem_append_right _ (List.mem_append_left _ (List.mem_of_getElem? (i := 33) rfl))))))))
theorem q_314 : (Cond.code yX6_takeRuns cX6_takeRuns 5 none) ∈ cs_WS := List.mem_append_right _ (List.mem_append_right _ (List.mem_append_right _ (List.mem_append_right _ (List.mem_append_right _ (List.mem_append_right _ (List.mem_append_right _ (List.mem_append_left _ (List.mem_of_getElem? (i := 34) rfl))))))))
theorem q_315 : (Cond.methodLink RX6 153 yX4_first) ∈ cs_WS := List.mem_append_right _ (List.mem_append_right _ (List.mem_append_right _ (List.mem_append_right _ (List.mem_append_right _ (List.mem_append_right _ (List.mem_append_right _ (List.mem_append_left _ (List.mem_of_getElem? (i := 35) rfl))))))))
theorem q_316 : (Cond.methodLink RX6 354 yX4_begin) ∈ cs_WS := List.mem_append_right _ (List.mem_append_right _ (List.mem_append_right _ (List.mem_append_right _ (List.mem_append_right _ (List.mem_append_right _ (List.mem_append_right _ (List.mem_append_left _ (List.mem_of_getElem? (i := 36) rfl))))))))
theorem q_317 : (Cond.methodLink RX6 159 yX4_cut) ∈ cs_WS := List.mem_append_right _ (List.mem_append_right _ (List.mem_append_right _ (List.mem_append_right _ (List.mem_append_right _ (List.mem_append_right _ (List.mem_append_right _ (List.mem_append_left _ (List.mem_of_getElem? (i := 37) rfl))))))))
theorem q_318 : (Cond.instanceMethod yX4_cut) ∈ cs_WS := List.mem_append_right _ (List.mem_append_right _ (List.mem_append_right _ (List.mem_append_right _ (List.mem_append_right _ (List.mem_append_right _ (List.mem_append_right _ (List.mem_append_left _ (List.mem_of_getElem? (i := 38) rfl))))))))
theorem q_319 : (Cond.selects RX4 yX4_cut yX4_cut) ∈ cs_WS := List.mem_append_right _ (List.mem_append_right _ (List.mem_append_right _ (List.mem_append_right _ (List.mem_append_right _ (List.mem_append_right _ (List.mem_append_right _ (List.mem_append_left _ (List.mem_of_getElem? (i := 39) rfl))))))))
theorem q_320 : (Cond.code yX6_takeLevel cX6_takeLevel 2 (some .int)) ∈ cs_WS := List.mem_append_right _ (List.mem_append_right _ (List.mem_append_right _ (List.mem_append_right _ (List.mem_append_right _ (List.mem_append_right _ (List.mem_append_right _ (List.mem_append_right _ (List.mem_append_left _ (List.mem_of_getElem? (i := 0) rfl)))))))))
theorem q_321 : (Cond.methodLink RX6 365 yX6_takeRuns) ∈ cs_WS := List.mem_append_right _ (List.mem_append_right _ (List.mem_append_right _ (List.mem_append_right _ (List.mem_append_right _ (List.mem_append_right _ (List.mem_append_right _ (List.mem_append_right _ (List.mem_append_left _ (List.mem_of_getElem? (i := 1) rfl)))))))))
theorem q_322 : (Cond.instanceMethod yX6_takeRuns) ∈ cs_WS := List.mem_append_right _ (List.mem_append_right _ (List.mem_append_right _ (List.mem_append_right _ (List.mem_append_right _ (List.mem_append_right _ (List.mem_append_right _ (List.mem_append_right _ (List.mem_append_left _ (List.mem_of_getElem? (i := 2) rfl)))))))))
theorem q_323 : (Cond.selects RX6 yX6_takeRuns yX6_takeRuns) ∈ cs_WS := List.mem_append_right _ (List.mem_append_right _ (List.mem_append_right _ (List.mem_append_right _ (List.mem_append_right _ (List.mem_append_right _ (List.mem_append_right _ (List.mem_append_right _ (List.mem_append_left _ (List.mem_of_getElem? (i := 3) rfl)))))))))
theorem q_324 : (Cond.code yX6_takePart cX6_takePart 9 (some .int)) ∈ cs_WS := List.mem_append_right _ (List.mem_append_right _ (List.mem_append_right _ (List.mem_append_right _ (List.mem_append_right _ (List.mem_append_right _ (List.mem_append_right _ (List.mem_append_right _ (List.mem_append_left _ (List.mem_of_getElem? (i := 4) rfl)))))))))
theorem q_325 : (Cond.methodLink RX6 211 yX3_at) ∈ cs_WS := List.mem_append_right _ (List.mem_append_right _ (List.mem_append_right _ (List.mem_append_right _ (List.mem_append_right _ (List.mem_append_right _ (List.mem_append_right _ (List.mem_append_right _ (List.mem_append_left _ (List.mem_of_getElem? (i := 5) rfl)))))))))
theorem q_326 : (Cond.methodLink RX6 368 yX4_firstBeyond) ∈ cs_WS := List.mem_append_right _ (List.mem_append_right _ (List.mem_append_right _ (List.mem_append_right _ (List.mem_append_right _ (List.mem_append_right _ (List.mem_append_right _ (List.mem_append_right _ (List.mem_append_left _ (List.mem_of_getElem? (i := 6) rfl)))))))))
theorem q_327 : (Cond.instanceMethod yX4_firstBeyond) ∈ cs_WS := List.mem_append_right _ (List.mem_append_right _ (List.mem_append_right _ (List.mem_append_right _ (List.mem_append_right _ (List.mem_append_right _ (List.mem_append_right _ (List.mem_append_right _ (List.mem_append_left _ (List.mem_of_getElem? (i := 7) rfl)))))))))
theorem q_328 : (Cond.selects RX4 yX4_firstBeyond yX4_firstBeyond) ∈ cs_WS := List.mem_append_right _ (List.mem_append_right _ (List.mem_append_right _ (List.mem_append_right _ (List.mem_append_right _ (List.mem_append_right _ (List.mem_append_right _ (List.mem_append_right _ (List.mem_append_left _ (List.mem_of_getElem? (i := 8) rfl)))))))))
theorem q_329 : (Cond.methodLink RX6 371 yX4_leastOf) ∈ cs_WS := List.mem_append_right _ (List.mem_append_right _ (List.mem_append_right _ (List.mem_append_right _ (List.mem_append_right _ (List.mem_append_right _ (List.mem_append_right _ (List.mem_append_right _ (List.mem_append_left _ (List.mem_of_getElem? (i := 9) rfl)))))))))
theorem q_330 : (Cond.instanceMethod yX4_leastOf) ∈ cs_WS := List.mem_append_right _ (List.mem_append_right _ (List.mem_append_right _ (List.mem_append_right _ (List.mem_append_right _ (List.mem_append_right _ (List.mem_append_right _ (List.mem_append_right _ (List.mem_append_left _ (List.mem_of_getElem? (i := 10) rfl)))))))))
theorem q_331 : (Cond.selects RX4 yX4_leastOf yX4_leastOf) ∈ cs_WS := List.mem_append_right _ (List.mem_append_right _ (List.mem_append_right _ (List.mem_append_right _ (List.mem_append_right _ (List.mem_append_right _ (List.mem_append_right _ (List.mem_append_right _ (List.mem_append_left _ (List.mem_of_getElem? (i := 11) rfl)))))))))
theorem q_332 : (Cond.methodLink RX6 374 yX4_greatestOf) ∈ cs_WS := List.mem_append_right _ (List.mem_append_right _ (List.mem_append_right _ (List.mem_append_right _ (List.mem_append_right _ (List.mem_append_right _ (List.mem_append_right _ (List.mem_append_right _ (List.mem_append_left _ (List.mem_of_getElem? (i := 12) rfl)))))))))
theorem q_333 : (Cond.instanceMethod yX4_greatestOf) ∈ cs_WS := List.mem_append_right _ (List.mem_append_right _ (List.mem_append_right _ (List.mem_append_right _ (List.mem_append_right _ (List.mem_append_right _ (List.mem_append_right _ (List.mem_append_right _ (List.mem_append_left _ (List.mem_of_getElem? (i := 13) rfl)))))))))
theorem q_334 : (Cond.selects RX4 yX4_greatestOf yX4_greatestOf) ∈ cs_WS := List.mem_append_right _ (List.mem_append_right _ (List.mem_append_right _ (List.mem_append_right _ (List.mem_append_right _ (List.mem_append_right _ (List.mem_append_right _ (List.mem_append_right _ (List.mem_append_left _ (List.mem_of_getElem? (i := 14) rfl)))))))))
theorem q_335 : (Cond.methodLink RX6 377 yX4_firstReaching) ∈ cs_WS := List.mem_append_right _ (List.mem_append_right _ (List.mem_append_right _ (List.mem_append_right _ (List.mem_append_right _ (List.mem_append_right _ (List.mem_append_right _ (List.mem_append_right _ (List.mem_append_left _ (List.mem_of_getElem? (i := 15) rfl)))))))))
theorem q_336 : (Cond.instanceMethod yX4_firstReaching) ∈ cs_WS := List.mem_append_right _ (List.mem_append_right _ (List.mem_append_right _ (List.mem_append_right _ (List.mem_append_right _ (List.mem_append_right _ (List.mem_append_right _ (List.mem_append_right _ (List.mem_append_left _ (List.mem_of_getElem? (i := 16) rfl)))))))))
theorem q_337 : (Cond.selects RX4 yX4_firstReaching yX4_firstReaching) ∈ cs_WS := List.mem_append_right _ (List.mem_append_right _ (List.mem_append_right _ (List.mem_append_right _ (List.mem_append_right _ (List.mem_append_right _ (List.mem_append_right _ (List.mem_append_right _ (List.mem_append_left _ (List.mem_of_getElem? (i := 17) rfl)))))))))
theorem q_338 : (Cond.code yX6_layPile cX6_layPile 7 none) ∈ cs_WS := List.mem_append_right _ (List.mem_append_right _ (List.mem_append_right _ (List.mem_append_right _ (List.mem_append_right _ (List.mem_append_right _ (List.mem_append_right _ (List.mem_append_right _ (List.mem_append_left _ (List.mem_of_getElem? (i := 18) rfl)))))))))
theorem q_339 : (Cond.methodLink RX6 380 yX2_pieceEnd) ∈ cs_WS := List.mem_append_right _ (List.mem_append_right _ (List.mem_append_right _ (List.mem_append_right _ (List.mem_append_right _ (List.mem_append_right _ (List.mem_append_right _ (List.mem_append_right _ (List.mem_append_left _ (List.mem_of_getElem? (i := 19) rfl)))))))))
theorem q_340 : (Cond.instanceMethod yX2_pieceEnd) ∈ cs_WS := List.mem_append_right _ (List.mem_append_right _ (List.mem_append_right _ (List.mem_append_right _ (List.mem_append_right _ (List.mem_append_right _ (List.mem_append_right _ (List.mem_append_right _ (List.mem_append_left _ (List.mem_of_getElem? (i := 20) rfl)))))))))
theorem q_341 : (Cond.selects RX2 yX2_pieceEnd yX2_pieceEnd) ∈ cs_WS := List.mem_append_right _ (List.mem_append_right _ (List.mem_append_right _ (List.mem_append_right _ (List.mem_append_right _ (List.mem_append_right _ (List.mem_append_right _ (List.mem_append_right _ (List.mem_append_left _ (List.mem_of_getElem? (i := 21) rfl)))))))))
theorem q_342 : (Cond.code yX6_settle cX6_settle 4 none) ∈ cs_WS := List.mem_append_right _ (List.mem_append_right _ (List.mem_append_right _ (List.mem_append_right _ (List.mem_append_right _ (List.mem_append_right _ (List.mem_append_right _ (List.mem_append_right _ (List.mem_append_left _ (List.mem_of_getElem? (i := 22) rfl)))))))))
theorem q_343 : (Cond.constant RX6 344 (1000000)) ∈ cs_WS := List.mem_append_right _ (List.mem_append_right _ (List.mem_append_right _ (List.mem_append_right _ (List.mem_append_right _ (List.mem_append_right _ (List.mem_append_right _ (List.mem_append_right _ (List.mem_append_left _ (List.mem_of_getElem? (i := 23) rfl)))))))))
theorem q_344 : (Cond.methodLink RX6 345 yX6_firstFull) ∈ cs_WS := List.mem_append_right _ (List.mem_append_right _ (List.mem_append_right _ (List.mem_append_right _ (List.mem_append_right _ (List.mem_append_right _ (List.mem_append_right _ (List.mem_append_right _ (List.mem_append_left _ (List.mem_of_getElem? (i := 24) rfl)))))))))
theorem q_345 : (Cond.instanceMethod yX6_firstFull) ∈ cs_WS := List.mem_append_right _ (List.mem_append_right _ (List.mem_append_right _ (List.mem_append_right _ (List.mem_append_right _ (List.mem_append_right _ (List.mem_append_right _ (List.mem_append_right _ (List.mem_append_left _ (List.mem_of_getElem? (i := 25) rfl)))))))))
theorem q_346 : (Cond.selects RX6 yX6_firstFull yX6_firstFull) ∈ cs_WS := List.mem_append_right _ (List.mem_append_right _ (List.mem_append_right _ (List.mem_append_right _ (List.mem_append_right _ (List.mem_append_right _ (List.mem_append_right _ (List.mem_append_right _ (List.mem_append_left _ (List.mem_of_getElem? (i := 26) rfl)))))))))
theorem q_347 : (Cond.methodLink RX6 348 yX6_takeLevel) ∈ cs_WS := List.mem_append_right _ (List.mem_append_right _ (List.mem_append_right _ (List.mem_append_right _ (List.mem_append_right _ (List.mem_append_right _ (List.mem_append_right _ (List.mem_append_right _ (List.mem_append_left _ (List.mem_of_getElem? (i := 27) rfl)))))))))
theorem q_348 : (Cond.instanceMethod yX6_takeLevel) ∈ cs_WS := List.mem_append_right _ (List.mem_append_right _ (List.mem_append_right _ (List.mem_append_right _ (List.mem_append_right _ (List.mem_append_right _ (List.mem_append_right _ (List.mem_append_right _ (List.mem_append_left _ (List.mem_of_getElem? (i := 28) rfl)))))))))
theorem q_349 : (Cond.selects RX6 yX6_takeLevel yX6_takeLevel) ∈ cs_WS := List.mem_append_right _ (List.mem_append_right _ (List.mem_append_right _ (List.mem_append_right _ (List.mem_append_right _ (List.mem_append_right _ (List.mem_append_right _ (List.mem_append_right _ (List.mem_append_left _ (List.mem_of_getElem? (i := 29) rfl)))))))))
theorem q_350 : (Cond.methodLink RX6 351 yX6_takePart) ∈ cs_WS := List.mem_append_right _ (List.mem_append_right _ (List.mem_append_right _ (List.mem_append_right _ (List.mem_append_right _ (List.mem_append_right _ (List.mem_append_right _ (List.mem_append_right _ (List.mem_append_left _ (List.mem_of_getElem? (i := 30) rfl)))))))))
theorem q_351 : (Cond.instanceMethod yX6_takePart) ∈ cs_WS := List.mem_append_right _ (List.mem_append_right _ (List.mem_append_right _ (List.mem_append_right _ (List.mem_append_right _ (List.mem_append_right _ (List.mem_append_right _ (List.mem_append_right _ (List.mem_append_left _ (List.mem_of_getElem? (i := 31) rfl)))))))))
theorem q_352 : (Cond.selects RX6 yX6_takePart yX6_takePart) ∈ cs_WS := List.mem_append_right _ (List.mem_append_right _ (List.mem_append_right _ (List.mem_append_right _ (List.mem_append_right _ (List.mem_append_right _ (List.mem_append_right _ (List.mem_append_right _ (List.mem_append_left _ (List.mem_of_getElem? (i := 32) rfl)))))))))
theorem q_353 : (Cond.methodLink RX6 356 yX2_dropStones) ∈ cs_WS := List.mem_append_right _ (List.mem_append_right _ (List.mem_append_right _ (List.mem_append_right _ (List.mem_append_right _ (List.mem_append_right _ (List.mem_append_right _ (List.mem_append_right _ (List.mem_append_left _ (List.mem_of_getElem? (i := 33) rfl)))))))))
theorem q_354 : (Cond.instanceMethod yX2_dropStones) ∈ cs_WS := List.mem_append_right _ (List.mem_append_right _ (List.mem_append_right _ (List.mem_append_right _ (List.mem_append_right _ (List.mem_append_right _ (List.mem_append_right _ (List.mem_append_right _ (List.mem_append_left _ (List.mem_of_getElem? (i := 34) rfl)))))))))
theorem q_355 : (Cond.selects RX2 yX2_dropStones yX2_dropStones) ∈ cs_WS := List.mem_append_right _ (List.mem_append_right _ (List.mem_append_right _ (List.mem_append_right _ (List.mem_append_right _ (List.mem_append_right _ (List.mem_append_right _ (List.mem_append_right _ (List.mem_append_left _ (List.mem_of_getElem? (i := 35) rfl)))))))))
theorem q_356 : (Cond.methodLink RX6 166 yX6_layPile) ∈ cs_WS := List.mem_append_right _ (List.mem_append_right _ (List.mem_append_right _ (List.mem_append_right _ (List.mem_append_right _ (List.mem_append_right _ (List.mem_append_right _ (List.mem_append_right _ (List.mem_append_left _ (List.mem_of_getElem? (i := 36) rfl)))))))))
theorem q_357 : (Cond.instanceMethod yX6_layPile) ∈ cs_WS := List.mem_append_right _ (List.mem_append_right _ (List.mem_append_right _ (List.mem_append_right _ (List.mem_append_right _ (List.mem_append_right _ (List.mem_append_right _ (List.mem_append_right _ (List.mem_append_left _ (List.mem_of_getElem? (i := 37) rfl)))))))))
theorem q_358 : (Cond.selects RX6 yX6_layPile yX6_layPile) ∈ cs_WS := List.mem_append_right _ (List.mem_append_right _ (List.mem_append_right _ (List.mem_append_right _ (List.mem_append_right _ (List.mem_append_right _ (List.mem_append_right _ (List.mem_append_right _ (List.mem_append_left _ (List.mem_of_getElem? (i := 38) rfl)))))))))
theorem q_359 : (Cond.code yX6_put cX6_put 4 (some .int)) ∈ cs_WS := List.mem_append_right _ (List.mem_append_right _ (List.mem_append_right _ (List.mem_append_right _ (List.mem_append_right _ (List.mem_append_right _ (List.mem_append_right _ (List.mem_append_right _ (List.mem_append_left _ (List.mem_of_getElem? (i := 39) rfl)))))))))
theorem q_360 : (Cond.methodLink RX6 117 yX6_checkKey) ∈ cs_WS := List.mem_append_right _ (List.mem_append_right _ (List.mem_append_right _ (List.mem_append_right _ (List.mem_append_right _ (List.mem_append_right _ (List.mem_append_right _ (List.mem_append_right _ (List.mem_append_right _ (List.mem_append_left _ (List.mem_of_getElem? (i := 0) rfl))))))))))
theorem q_361 : (Cond.static yX6_checkKey) ∈ cs_WS := List.mem_append_right _ (List.mem_append_right _ (List.mem_append_right _ (List.mem_append_right _ (List.mem_append_right _ (List.mem_append_right _ (List.mem_append_right _ (List.mem_append_right _ (List.mem_append_right _ (List.mem_append_left _ (List.mem_of_getElem? (i := 1) rfl))))))))))
theorem q_362 : (Cond.methodLink RX6 122 yX6_write) ∈ cs_WS := List.mem_append_right _ (List.mem_append_right _ (List.mem_append_right _ (List.mem_append_right _ (List.mem_append_right _ (List.mem_append_right _ (List.mem_append_right _ (List.mem_append_right _ (List.mem_append_right _ (List.mem_append_left _ (List.mem_of_getElem? (i := 2) rfl))))))))))
theorem q_363 : (Cond.instanceMethod yX6_write) ∈ cs_WS := List.mem_append_right _ (List.mem_append_right _ (List.mem_append_right _ (List.mem_append_right _ (List.mem_append_right _ (List.mem_append_right _ (List.mem_append_right _ (List.mem_append_right _ (List.mem_append_right _ (List.mem_append_left _ (List.mem_of_getElem? (i := 3) rfl))))))))))
theorem q_364 : (Cond.selects RX6 yX6_write yX6_write) ∈ cs_WS := List.mem_append_right _ (List.mem_append_right _ (List.mem_append_right _ (List.mem_append_right _ (List.mem_append_right _ (List.mem_append_right _ (List.mem_append_right _ (List.mem_append_right _ (List.mem_append_right _ (List.mem_append_left _ (List.mem_of_getElem? (i := 4) rfl))))))))))
theorem q_365 : (Cond.methodLink RX6 125 yX6_settle) ∈ cs_WS := List.mem_append_right _ (List.mem_append_right _ (List.mem_append_right _ (List.mem_append_right _ (List.mem_append_right _ (List.mem_append_right _ (List.mem_append_right _ (List.mem_append_right _ (List.mem_append_right _ (List.mem_append_left _ (List.mem_of_getElem? (i := 5) rfl))))))))))
theorem q_366 : (Cond.instanceMethod yX6_settle) ∈ cs_WS := List.mem_append_right _ (List.mem_append_right _ (List.mem_append_right _ (List.mem_append_right _ (List.mem_append_right _ (List.mem_append_right _ (List.mem_append_right _ (List.mem_append_right _ (List.mem_append_right _ (List.mem_append_left _ (List.mem_of_getElem? (i := 6) rfl))))))))))
theorem q_367 : (Cond.selects RX6 yX6_settle yX6_settle) ∈ cs_WS := List.mem_append_right _ (List.mem_append_right _ (List.mem_append_right _ (List.mem_append_right _ (List.mem_append_right _ (List.mem_append_right _ (List.mem_append_right _ (List.mem_append_right _ (List.mem_append_right _ (List.mem_append_left _ (List.mem_of_getElem? (i := 7) rfl))))))))))
theorem q_368 : (Cond.code yX6_remove cX6_remove 3 (some .int)) ∈ cs_WS := List.mem_append_right _ (List.mem_append_right _ (List.mem_append_right _ (List.mem_append_right _ (List.mem_append_right _ (List.mem_append_right _ (List.mem_append_right _ (List.mem_append_right _ (List.mem_append_right _ (List.mem_append_left _ (List.mem_of_getElem? (i := 8) rfl))))))))))
theorem q_369 : (Cond.code yX6_flush cX6_flush 2 (some .int)) ∈ cs_WS := List.mem_append_right _ (List.mem_append_right _ (List.mem_append_right _ (List.mem_append_right _ (List.mem_append_right _ (List.mem_append_right _ (List.mem_append_right _ (List.mem_append_right _ (List.mem_append_right _ (List.mem_append_left _ (List.mem_of_getElem? (i := 9) rfl))))))))))
theorem q_370 : (Cond.code yX6_checkLevel cX6_checkLevel 1 none) ∈ cs_WS := List.mem_append_right _ (List.mem_append_right _ (List.mem_append_right _ (List.mem_append_right _ (List.mem_append_right _ (List.mem_append_right _ (List.mem_append_right _ (List.mem_append_right _ (List.mem_append_right _ (List.mem_append_left _ (List.mem_of_getElem? (i := 10) rfl))))))))))
theorem q_371 : (Cond.classLink RX6 231 "java/lang/IndexOutOfBoundsException") ∈ cs_WS := List.mem_append_right _ (List.mem_append_right _ (List.mem_append_right _ (List.mem_append_right _ (List.mem_append_right _ (List.mem_append_right _ (List.mem_append_right _ (List.mem_append_right _ (List.mem_append_right _ (List.mem_append_left _ (List.mem_of_getElem? (i := 11) rfl))))))))))
theorem q_372 : (Cond.initialized "java/lang/IndexOutOfBoundsException") ∈ cs_WS := List.mem_append_right _ (List.mem_append_right _ (List.mem_append_right _ (List.mem_append_right _ (List.mem_append_right _ (List.mem_append_right _ (List.mem_append_right _ (List.mem_append_right _ (List.mem_append_right _ (List.mem_append_left _ (List.mem_of_getElem? (i := 12) rfl))))))))))
theorem q_373 : (Cond.code yX6_firstPacked cX6_firstPacked 2 (some .int)) ∈ cs_WS := List.mem_append_right _ (List.mem_append_right _ (List.mem_append_right _ (List.mem_append_right _ (List.mem_append_right _ (List.mem_append_right _ (List.mem_append_right _ (List.mem_append_right _ (List.mem_append_right _ (List.mem_append_left _ (List.mem_of_getElem? (i := 13) rfl))))))))))
theorem q_374 : (Cond.code yX6_planPack cX6_planPack 4 (some .int)) ∈ cs_WS := List.mem_append_right _ (List.mem_append_right _ (List.mem_append_right _ (List.mem_append_right _ (List.mem_append_right _ (List.mem_append_right _ (List.mem_append_right _ (List.mem_append_right _ (List.mem_append_right _ (List.mem_append_left _ (List.mem_of_getElem? (i := 14) rfl))))))))))
theorem q_375 : (Cond.methodLink RX6 150 yX6_firstPacked) ∈ cs_WS := List.mem_append_right _ (List.mem_append_right _ (List.mem_append_right _ (List.mem_append_right _ (List.mem_append_right _ (List.mem_append_right _ (List.mem_append_right _ (List.mem_append_right _ (List.mem_append_right _ (List.mem_append_left _ (List.mem_of_getElem? (i := 15) rfl))))))))))
theorem q_376 : (Cond.instanceMethod yX6_firstPacked) ∈ cs_WS := List.mem_append_right _ (List.mem_append_right _ (List.mem_append_right _ (List.mem_append_right _ (List.mem_append_right _ (List.mem_append_right _ (List.mem_append_right _ (List.mem_append_right _ (List.mem_append_right _ (List.mem_append_left _ (List.mem_of_getElem? (i := 16) rfl))))))))))
theorem q_377 : (Cond.selects RX6 yX6_firstPacked yX6_firstPacked) ∈ cs_WS := List.mem_append_right _ (List.mem_append_right _ (List.mem_append_right _ (List.mem_append_right _ (List.mem_append_right _ (List.mem_append_right _ (List.mem_append_right _ (List.mem_append_right _ (List.mem_append_right _ (List.mem_append_left _ (List.mem_of_getElem? (i := 17) rfl))))))))))
theorem q_378 : (Cond.code yX6_pack cX6_pack 5 (some .int)) ∈ cs_WS := List.mem_append_right _ (List.mem_append_right _ (List.mem_append_right _ (List.mem_append_right _ (List.mem_append_right _ (List.mem_append_right _ (List.mem_append_right _ (List.mem_append_right _ (List.mem_append_right _ (List.mem_append_left _ (List.mem_of_getElem? (i := 18) rfl))))))))))
theorem q_379 : (Cond.methodLink RX6 143 yX6_checkLevel) ∈ cs_WS := List.mem_append_right _ (List.mem_append_right _ (List.mem_append_right _ (List.mem_append_right _ (List.mem_append_right _ (List.mem_append_right _ (List.mem_append_right _ (List.mem_append_right _ (List.mem_append_right _ (List.mem_append_left _ (List.mem_of_getElem? (i := 19) rfl))))))))))
theorem q_380 : (Cond.static yX6_checkLevel) ∈ cs_WS := List.mem_append_right _ (List.mem_append_right _ (List.mem_append_right _ (List.mem_append_right _ (List.mem_append_right _ (List.mem_append_right _ (List.mem_append_right _ (List.mem_append_right _ (List.mem_append_right _ (List.mem_append_left _ (List.mem_of_getElem? (i := 20) rfl))))))))))
theorem q_381 : (Cond.methodLink RX6 146 yX6_planPack) ∈ cs_WS := List.mem_append_right _ (List.mem_append_right _ (List.mem_append_right _ (List.mem_append_right _ (List.mem_append_right _ (List.mem_append_right _ (List.mem_append_right _ (List.mem_append_right _ (List.mem_append_right _ (List.mem_append_left _ (List.mem_of_getElem? (i := 21) rfl))))))))))
theorem q_382 : (Cond.instanceMethod yX6_planPack) ∈ cs_WS := List.mem_append_right _ (List.mem_append_right _ (List.mem_append_right _ (List.mem_append_right _ (List.mem_append_right _ (List.mem_append_right _ (List.mem_append_right _ (List.mem_append_right _ (List.mem_append_right _ (List.mem_append_left _ (List.mem_of_getElem? (i := 22) rfl))))))))))
theorem q_383 : (Cond.selects RX6 yX6_planPack yX6_planPack) ∈ cs_WS := List.mem_append_right _ (List.mem_append_right _ (List.mem_append_right _ (List.mem_append_right _ (List.mem_append_right _ (List.mem_append_right _ (List.mem_append_right _ (List.mem_append_right _ (List.mem_append_right _ (List.mem_append_left _ (List.mem_of_getElem? (i := 23) rfl))))))))))
theorem q_384 : (Cond.code yX6_crash cX6_crash 2 (some .int)) ∈ cs_WS := List.mem_append_right _ (List.mem_append_right _ (List.mem_append_right _ (List.mem_append_right _ (List.mem_append_right _ (List.mem_append_right _ (List.mem_append_right _ (List.mem_append_right _ (List.mem_append_right _ (List.mem_append_left _ (List.mem_of_getElem? (i := 24) rfl))))))))))
theorem q_385 : (Cond.methodLink RX6 128 yX0_unsafeWrites) ∈ cs_WS := List.mem_append_right _ (List.mem_append_right _ (List.mem_append_right _ (List.mem_append_right _ (List.mem_append_right _ (List.mem_append_right _ (List.mem_append_right _ (List.mem_append_right _ (List.mem_append_right _ (List.mem_append_left _ (List.mem_of_getElem? (i := 25) rfl))))))))))
theorem q_386 : (Cond.instanceMethod yX0_unsafeWrites) ∈ cs_WS := List.mem_append_right _ (List.mem_append_right _ (List.mem_append_right _ (List.mem_append_right _ (List.mem_append_right _ (List.mem_append_right _ (List.mem_append_right _ (List.mem_append_right _ (List.mem_append_right _ (List.mem_append_left _ (List.mem_of_getElem? (i := 26) rfl))))))))))
theorem q_387 : (Cond.selects RX0 yX0_unsafeWrites yX0_unsafeWrites) ∈ cs_WS := List.mem_append_right _ (List.mem_append_right _ (List.mem_append_right _ (List.mem_append_right _ (List.mem_append_right _ (List.mem_append_right _ (List.mem_append_right _ (List.mem_append_right _ (List.mem_append_right _ (List.mem_append_left _ (List.mem_of_getElem? (i := 27) rfl))))))))))
theorem q_388 : (Cond.methodLink RX6 169 yX0_loseUnsafe) ∈ cs_WS := List.mem_append_right _ (List.mem_append_right _ (List.mem_append_right _ (List.mem_append_right _ (List.mem_append_right _ (List.mem_append_right _ (List.mem_append_right _ (List.mem_append_right _ (List.mem_append_right _ (List.mem_append_left _ (List.mem_of_getElem? (i := 28) rfl))))))))))
theorem q_389 : (Cond.instanceMethod yX0_loseUnsafe) ∈ cs_WS := List.mem_append_right _ (List.mem_append_right _ (List.mem_append_right _ (List.mem_append_right _ (List.mem_append_right _ (List.mem_append_right _ (List.mem_append_right _ (List.mem_append_right _ (List.mem_append_right _ (List.mem_append_left _ (List.mem_of_getElem? (i := 29) rfl))))))))))
theorem q_390 : (Cond.selects RX0 yX0_loseUnsafe yX0_loseUnsafe) ∈ cs_WS := List.mem_append_right _ (List.mem_append_right _ (List.mem_append_right _ (List.mem_append_right _ (List.mem_append_right _ (List.mem_append_right _ (List.mem_append_right _ (List.mem_append_right _ (List.mem_append_right _ (List.mem_append_left _ (List.mem_of_getElem? (i := 30) rfl))))))))))
theorem q_391 : (Cond.methodLink RX6 172 yX5_loseAll) ∈ cs_WS := List.mem_append_right _ (List.mem_append_right _ (List.mem_append_right _ (List.mem_append_right _ (List.mem_append_right _ (List.mem_append_right _ (List.mem_append_right _ (List.mem_append_right _ (List.mem_append_right _ (List.mem_append_left _ (List.mem_of_getElem? (i := 31) rfl))))))))))
theorem q_392 : (Cond.instanceMethod yX5_loseAll) ∈ cs_WS := List.mem_append_right _ (List.mem_append_right _ (List.mem_append_right _ (List.mem_append_right _ (List.mem_append_right _ (List.mem_append_right _ (List.mem_append_right _ (List.mem_append_right _ (List.mem_append_right _ (List.mem_append_left _ (List.mem_of_getElem? (i := 32) rfl))))))))))
theorem q_393 : (Cond.selects RX5 yX5_loseAll yX5_loseAll) ∈ cs_WS := List.mem_append_right _ (List.mem_append_right _ (List.mem_append_right _ (List.mem_append_right _ (List.mem_append_right _ (List.mem_append_right _ (List.mem_append_right _ (List.mem_append_right _ (List.mem_append_right _ (List.mem_append_left _ (List.mem_of_getElem? (i := 33) rfl))))))))))
theorem q_394 : (Cond.code yX6_snap cX6_snap 1 (some .int)) ∈ cs_WS := List.mem_append_right _ (List.mem_append_right _ (List.mem_append_right _ (List.mem_append_right _ (List.mem_append_right _ (List.mem_append_right _ (List.mem_append_right _ (List.mem_append_right _ (List.mem_append_right _ (List.mem_append_left _ (List.mem_of_getElem? (i := 34) rfl))))))))))
theorem q_395 : (Cond.methodLink RX6 178 yX5_there) ∈ cs_WS := List.mem_append_right _ (List.mem_append_right _ (List.mem_append_right _ (List.mem_append_right _ (List.mem_append_right _ (List.mem_append_right _ (List.mem_append_right _ (List.mem_append_right _ (List.mem_append_right _ (List.mem_append_left _ (List.mem_of_getElem? (i := 35) rfl))))))))))
theorem q_396 : (Cond.instanceMethod yX5_there) ∈ cs_WS := List.mem_append_right _ (List.mem_append_right _ (List.mem_append_right _ (List.mem_append_right _ (List.mem_append_right _ (List.mem_append_right _ (List.mem_append_right _ (List.mem_append_right _ (List.mem_append_right _ (List.mem_append_left _ (List.mem_of_getElem? (i := 36) rfl))))))))))
theorem q_397 : (Cond.selects RX5 yX5_there yX5_there) ∈ cs_WS := List.mem_append_right _ (List.mem_append_right _ (List.mem_append_right _ (List.mem_append_right _ (List.mem_append_right _ (List.mem_append_right _ (List.mem_append_right _ (List.mem_append_right _ (List.mem_append_right _ (List.mem_append_left _ (List.mem_of_getElem? (i := 37) rfl))))))))))
theorem q_398 : (Cond.methodLink RX6 183 yX1_newest) ∈ cs_WS := List.mem_append_right _ (List.mem_append_right _ (List.mem_append_right _ (List.mem_append_right _ (List.mem_append_right _ (List.mem_append_right _ (List.mem_append_right _ (List.mem_append_right _ (List.mem_append_right _ (List.mem_append_left _ (List.mem_of_getElem? (i := 38) rfl))))))))))
theorem q_399 : (Cond.methodLink RX6 186 yX5_take) ∈ cs_WS := List.mem_append_right _ (List.mem_append_right _ (List.mem_append_right _ (List.mem_append_right _ (List.mem_append_right _ (List.mem_append_right _ (List.mem_append_right _ (List.mem_append_right _ (List.mem_append_right _ (List.mem_append_left _ (List.mem_of_getElem? (i := 39) rfl))))))))))
theorem q_400 : (Cond.instanceMethod yX5_take) ∈ cs_WS := List.mem_append_right _ (List.mem_append_right _ (List.mem_append_right _ (List.mem_append_right _ (List.mem_append_right _ (List.mem_append_right _ (List.mem_append_right _ (List.mem_append_right _ (List.mem_append_right _ (List.mem_append_right _ (List.mem_append_left _ (List.mem_of_getElem? (i := 0) rfl)))))))))))
theorem q_401 : (Cond.selects RX5 yX5_take yX5_take) ∈ cs_WS := List.mem_append_right _ (List.mem_append_right _ (List.mem_append_right _ (List.mem_append_right _ (List.mem_append_right _ (List.mem_append_right _ (List.mem_append_right _ (List.mem_append_right _ (List.mem_append_right _ (List.mem_append_right _ (List.mem_append_left _ (List.mem_of_getElem? (i := 1) rfl)))))))))))
theorem q_402 : (Cond.code yX6_placeOfSnapshot cX6_placeOfSnapshot 3 (some .int)) ∈ cs_WS := List.mem_append_right _ (List.mem_append_right _ (List.mem_append_right _ (List.mem_append_right _ (List.mem_append_right _ (List.mem_append_right _ (List.mem_append_right _ (List.mem_append_right _ (List.mem_append_right _ (List.mem_append_right _ (List.mem_append_left _ (List.mem_of_getElem? (i := 2) rfl)))))))))))
theorem q_403 : (Cond.methodLink RX6 305 yX5_placeOf) ∈ cs_WS := List.mem_append_right _ (List.mem_append_right _ (List.mem_append_right _ (List.mem_append_right _ (List.mem_append_right _ (List.mem_append_right _ (List.mem_append_right _ (List.mem_append_right _ (List.mem_append_right _ (List.mem_append_right _ (List.mem_append_left _ (List.mem_of_getElem? (i := 3) rfl)))))))))))
theorem q_404 : (Cond.instanceMethod yX5_placeOf) ∈ cs_WS := List.mem_append_right _ (List.mem_append_right _ (List.mem_append_right _ (List.mem_append_right _ (List.mem_append_right _ (List.mem_append_right _ (List.mem_append_right _ (List.mem_append_right _ (List.mem_append_right _ (List.mem_append_right _ (List.mem_append_left _ (List.mem_of_getElem? (i := 4) rfl)))))))))))
theorem q_405 : (Cond.selects RX5 yX5_placeOf yX5_placeOf) ∈ cs_WS := List.mem_append_right _ (List.mem_append_right _ (List.mem_append_right _ (List.mem_append_right _ (List.mem_append_right _ (List.mem_append_right _ (List.mem_append_right _ (List.mem_append_right _ (List.mem_append_right _ (List.mem_append_right _ (List.mem_append_left _ (List.mem_of_getElem? (i := 5) rfl)))))))))))
theorem q_406 : (Cond.code yX6_release cX6_release 2 (some .int)) ∈ cs_WS := List.mem_append_right _ (List.mem_append_right _ (List.mem_append_right _ (List.mem_append_right _ (List.mem_append_right _ (List.mem_append_right _ (List.mem_append_right _ (List.mem_append_right _ (List.mem_append_right _ (List.mem_append_right _ (List.mem_append_left _ (List.mem_of_getElem? (i := 6) rfl)))))))))))
theorem q_407 : (Cond.methodLink RX6 189 yX6_placeOfSnapshot) ∈ cs_WS := List.mem_append_right _ (List.mem_append_right _ (List.mem_append_right _ (List.mem_append_right _ (List.mem_append_right _ (List.mem_append_right _ (List.mem_append_right _ (List.mem_append_right _ (List.mem_append_right _ (List.mem_append_right _ (List.mem_append_left _ (List.mem_of_getElem? (i := 7) rfl)))))))))))
theorem q_408 : (Cond.instanceMethod yX6_placeOfSnapshot) ∈ cs_WS := List.mem_append_right _ (List.mem_append_right _ (List.mem_append_right _ (List.mem_append_right _ (List.mem_append_right _ (List.mem_append_right _ (List.mem_append_right _ (List.mem_append_right _ (List.mem_append_right _ (List.mem_append_right _ (List.mem_append_left _ (List.mem_of_getElem? (i := 8) rfl)))))))))))
theorem q_409 : (Cond.selects RX6 yX6_placeOfSnapshot yX6_placeOfSnapshot) ∈ cs_WS := List.mem_append_right _ (List.mem_append_right _ (List.mem_append_right _ (List.mem_append_right _ (List.mem_append_right _ (List.mem_append_right _ (List.mem_append_right _ (List.mem_append_right _ (List.mem_append_right _ (List.mem_append_right _ (List.mem_append_left _ (List.mem_of_getElem? (i := 9) rfl)))))))))))
theorem q_410 : (Cond.methodLink RX6 192 yX5_letGo) ∈ cs_WS := List.mem_append_right _ (List.mem_append_right _ (List.mem_append_right _ (List.mem_append_right _ (List.mem_append_right _ (List.mem_append_right _ (List.mem_append_right _ (List.mem_append_right _ (List.mem_append_right _ (List.mem_append_right _ (List.mem_append_left _ (List.mem_of_getElem? (i := 10) rfl)))))))))))
theorem q_411 : (Cond.instanceMethod yX5_letGo) ∈ cs_WS := List.mem_append_right _ (List.mem_append_right _ (List.mem_append_right _ (List.mem_append_right _ (List.mem_append_right _ (List.mem_append_right _ (List.mem_append_right _ (List.mem_append_right _ (List.mem_append_right _ (List.mem_append_right _ (List.mem_append_left _ (List.mem_of_getElem? (i := 11) rfl)))))))))))
theorem q_412 : (Cond.selects RX5 yX5_letGo yX5_letGo) ∈ cs_WS := List.mem_append_right _ (List.mem_append_right _ (List.mem_append_right _ (List.mem_append_right _ (List.mem_append_right _ (List.mem_append_right _ (List.mem_append_right _ (List.mem_append_right _ (List.mem_append_right _ (List.mem_append_right _ (List.mem_append_left _ (List.mem_of_getElem? (i := 12) rfl)))))))))))
theorem q_413 : (Cond.code yX6_lookInRun cX6_lookInRun 5 (some .int)) ∈ cs_WS := List.mem_append_right _ (List.mem_append_right _ (List.mem_append_right _ (List.mem_append_right _ (List.mem_append_right _ (List.mem_append_right _ (List.mem_append_right _ (List.mem_append_right _ (List.mem_append_right _ (List.mem_append_right _ (List.mem_append_left _ (List.mem_of_getElem? (i := 13) rfl)))))))))))
theorem q_414 : (Cond.methodLink RX6 243 yX4_passes) ∈ cs_WS := List.mem_append_right _ (List.mem_append_right _ (List.mem_append_right _ (List.mem_append_right _ (List.mem_append_right _ (List.mem_append_right _ (List.mem_append_right _ (List.mem_append_right _ (List.mem_append_right _ (List.mem_append_right _ (List.mem_append_left _ (List.mem_of_getElem? (i := 14) rfl)))))))))))
theorem q_415 : (Cond.instanceMethod yX4_passes) ∈ cs_WS := List.mem_append_right _ (List.mem_append_right _ (List.mem_append_right _ (List.mem_append_right _ (List.mem_append_right _ (List.mem_append_right _ (List.mem_append_right _ (List.mem_append_right _ (List.mem_append_right _ (List.mem_append_right _ (List.mem_append_left _ (List.mem_of_getElem? (i := 15) rfl)))))))))))
theorem q_416 : (Cond.selects RX4 yX4_passes yX4_passes) ∈ cs_WS := List.mem_append_right _ (List.mem_append_right _ (List.mem_append_right _ (List.mem_append_right _ (List.mem_append_right _ (List.mem_append_right _ (List.mem_append_right _ (List.mem_append_right _ (List.mem_append_right _ (List.mem_append_right _ (List.mem_append_left _ (List.mem_of_getElem? (i := 16) rfl)))))))))))
theorem q_417 : (Cond.methodLink RX6 394 yX4_find) ∈ cs_WS := List.mem_append_right _ (List.mem_append_right _ (List.mem_append_right _ (List.mem_append_right _ (List.mem_append_right _ (List.mem_append_right _ (List.mem_append_right _ (List.mem_append_right _ (List.mem_append_right _ (List.mem_append_right _ (List.mem_append_left _ (List.mem_of_getElem? (i := 17) rfl)))))))))))
theorem q_418 : (Cond.instanceMethod yX4_find) ∈ cs_WS := List.mem_append_right _ (List.mem_append_right _ (List.mem_append_right _ (List.mem_append_right _ (List.mem_append_right _ (List.mem_append_right _ (List.mem_append_right _ (List.mem_append_right _ (List.mem_append_right _ (List.mem_append_right _ (List.mem_append_left _ (List.mem_of_getElem? (i := 18) rfl)))))))))))
theorem q_419 : (Cond.selects RX4 yX4_find yX4_find) ∈ cs_WS := List.mem_append_right _ (List.mem_append_right _ (List.mem_append_right _ (List.mem_append_right _ (List.mem_append_right _ (List.mem_append_right _ (List.mem_append_right _ (List.mem_append_right _ (List.mem_append_right _ (List.mem_append_right _ (List.mem_append_left _ (List.mem_of_getElem? (i := 19) rfl)))))))))))
theorem q_420 : (Cond.code yX6_lookInRuns cX6_lookInRuns 6 (some .int)) ∈ cs_WS := List.mem_append_right _ (List.mem_append_right _ (List.mem_append_right _ (List.mem_append_right _ (List.mem_append_right _ (List.mem_append_right _ (List.mem_append_right _ (List.mem_append_right _ (List.mem_append_right _ (List.mem_append_right _ (List.mem_append_left _ (List.mem_of_getElem? (i := 20) rfl)))))))))))
theorem q_421 : (Cond.methodLink RX6 387 yX4_spans) ∈ cs_WS := List.mem_append_right _ (List.mem_append_right _ (List.mem_append_right _ (List.mem_append_right _ (List.mem_append_right _ (List.mem_append_right _ (List.mem_append_right _ (List.mem_append_right _ (List.mem_append_right _ (List.mem_append_right _ (List.mem_append_left _ (List.mem_of_getElem? (i := 21) rfl)))))))))))
theorem q_422 : (Cond.instanceMethod yX4_spans) ∈ cs_WS := List.mem_append_right _ (List.mem_append_right _ (List.mem_append_right _ (List.mem_append_right _ (List.mem_append_right _ (List.mem_append_right _ (List.mem_append_right _ (List.mem_append_right _ (List.mem_append_right _ (List.mem_append_right _ (List.mem_append_left _ (List.mem_of_getElem? (i := 22) rfl)))))))))))
theorem q_423 : (Cond.selects RX4 yX4_spans yX4_spans) ∈ cs_WS := List.mem_append_right _ (List.mem_append_right _ (List.mem_append_right _ (List.mem_append_right _ (List.mem_append_right _ (List.mem_append_right _ (List.mem_append_right _ (List.mem_append_right _ (List.mem_append_right _ (List.mem_append_right _ (List.mem_append_left _ (List.mem_of_getElem? (i := 23) rfl)))))))))))
theorem q_424 : (Cond.methodLink RX6 390 yX6_lookInRun) ∈ cs_WS := List.mem_append_right _ (List.mem_append_right _ (List.mem_append_right _ (List.mem_append_right _ (List.mem_append_right _ (List.mem_append_right _ (List.mem_append_right _ (List.mem_append_right _ (List.mem_append_right _ (List.mem_append_right _ (List.mem_append_left _ (List.mem_of_getElem? (i := 24) rfl)))))))))))
theorem q_425 : (Cond.instanceMethod yX6_lookInRun) ∈ cs_WS := List.mem_append_right _ (List.mem_append_right _ (List.mem_append_right _ (List.mem_append_right _ (List.mem_append_right _ (List.mem_append_right _ (List.mem_append_right _ (List.mem_append_right _ (List.mem_append_right _ (List.mem_append_right _ (List.mem_append_left _ (List.mem_of_getElem? (i := 25) rfl)))))))))))
theorem q_426 : (Cond.selects RX6 yX6_lookInRun yX6_lookInRun) ∈ cs_WS := List.mem_append_right _ (List.mem_append_right _ (List.mem_append_right _ (List.mem_append_right _ (List.mem_append_right _ (List.mem_append_right _ (List.mem_append_right _ (List.mem_append_right _ (List.mem_append_right _ (List.mem_append_right _ (List.mem_append_left _ (List.mem_of_getElem? (i := 26) rfl)))))))))))
theorem q_427 : (Cond.code yX6_lookUp cX6_lookUp 5 (some .int)) ∈ cs_WS := List.mem_append_right _ (List.mem_append_right _ (List.mem_append_right _ (List.mem_append_right _ (List.mem_append_right _ (List.mem_append_right _ (List.mem_append_right _ (List.mem_append_right _ (List.mem_append_right _ (List.mem_append_right _ (List.mem_append_left _ (List.mem_of_getElem? (i := 27) rfl)))))))))))
theorem q_428 : (Cond.methodLink RX6 383 yX1_find) ∈ cs_WS := List.mem_append_right _ (List.mem_append_right _ (List.mem_append_right _ (List.mem_append_right _ (List.mem_append_right _ (List.mem_append_right _ (List.mem_append_right _ (List.mem_append_right _ (List.mem_append_right _ (List.mem_append_right _ (List.mem_append_left _ (List.mem_of_getElem? (i := 28) rfl)))))))))))
theorem q_429 : (Cond.methodLink RX6 262 yX6_lookInRuns) ∈ cs_WS := List.mem_append_right _ (List.mem_append_right _ (List.mem_append_right _ (List.mem_append_right _ (List.mem_append_right _ (List.mem_append_right _ (List.mem_append_right _ (List.mem_append_right _ (List.mem_append_right _ (List.mem_append_right _ (List.mem_append_left _ (List.mem_of_getElem? (i := 29) rfl)))))))))))
theorem q_430 : (Cond.instanceMethod yX6_lookInRuns) ∈ cs_WS := List.mem_append_right _ (List.mem_append_right _ (List.mem_append_right _ (List.mem_append_right _ (List.mem_append_right _ (List.mem_append_right _ (List.mem_append_right _ (List.mem_append_right _ (List.mem_append_right _ (List.mem_append_right _ (List.mem_append_left _ (List.mem_of_getElem? (i := 30) rfl)))))))))))
theorem q_431 : (Cond.selects RX6 yX6_lookInRuns yX6_lookInRuns) ∈ cs_WS := List.mem_append_right _ (List.mem_append_right _ (List.mem_append_right _ (List.mem_append_right _ (List.mem_append_right _ (List.mem_append_right _ (List.mem_append_right _ (List.mem_append_right _ (List.mem_append_right _ (List.mem_append_right _ (List.mem_append_left _ (List.mem_of_getElem? (i := 31) rfl)))))))))))
theorem q_432 : (Cond.code yX6_valueOf cX6_valueOf 2 (some .int)) ∈ cs_WS := List.mem_append_right _ (List.mem_append_right _ (List.mem_append_right _ (List.mem_append_right _ (List.mem_append_right _ (List.mem_append_right _ (List.mem_append_right _ (List.mem_append_right _ (List.mem_append_right _ (List.mem_append_right _ (List.mem_append_left _ (List.mem_of_getElem? (i := 32) rfl)))))))))))
theorem q_433 : (Cond.methodLink RX6 220 yX1_value) ∈ cs_WS := List.mem_append_right _ (List.mem_append_right _ (List.mem_append_right _ (List.mem_append_right _ (List.mem_append_right _ (List.mem_append_right _ (List.mem_append_right _ (List.mem_append_right _ (List.mem_append_right _ (List.mem_append_right _ (List.mem_append_left _ (List.mem_of_getElem? (i := 33) rfl)))))))))))
theorem q_434 : (Cond.instanceMethod yX1_value) ∈ cs_WS := List.mem_append_right _ (List.mem_append_right _ (List.mem_append_right _ (List.mem_append_right _ (List.mem_append_right _ (List.mem_append_right _ (List.mem_append_right _ (List.mem_append_right _ (List.mem_append_right _ (List.mem_append_right _ (List.mem_append_left _ (List.mem_of_getElem? (i := 34) rfl)))))))))))
theorem q_435 : (Cond.selects RX1 yX1_value yX1_value) ∈ cs_WS := List.mem_append_right _ (List.mem_append_right _ (List.mem_append_right _ (List.mem_append_right _ (List.mem_append_right _ (List.mem_append_right _ (List.mem_append_right _ (List.mem_append_right _ (List.mem_append_right _ (List.mem_append_right _ (List.mem_append_left _ (List.mem_of_getElem? (i := 35) rfl)))))))))))
theorem q_436 : (Cond.code yX6_get cX6_get 2 (some .int)) ∈ cs_WS := List.mem_append_right _ (List.mem_append_right _ (List.mem_append_right _ (List.mem_append_right _ (List.mem_append_right _ (List.mem_append_right _ (List.mem_append_right _ (List.mem_append_right _ (List.mem_append_right _ (List.mem_append_right _ (List.mem_append_left _ (List.mem_of_getElem? (i := 36) rfl)))))))))))
theorem q_437 : (Cond.methodLink RX6 195 yX6_lookUp) ∈ cs_WS := List.mem_append_right _ (List.mem_append_right _ (List.mem_append_right _ (List.mem_append_right _ (List.mem_append_right _ (List.mem_append_right _ (List.mem_append_right _ (List.mem_append_right _ (List.mem_append_right _ (List.mem_append_right _ (List.mem_append_left _ (List.mem_of_getElem? (i := 37) rfl)))))))))))
theorem q_438 : (Cond.instanceMethod yX6_lookUp) ∈ cs_WS := List.mem_append_right _ (List.mem_append_right _ (List.mem_append_right _ (List.mem_append_right _ (List.mem_append_right _ (List.mem_append_right _ (List.mem_append_right _ (List.mem_append_right _ (List.mem_append_right _ (List.mem_append_right _ (List.mem_append_left _ (List.mem_of_getElem? (i := 38) rfl)))))))))))
theorem q_439 : (Cond.selects RX6 yX6_lookUp yX6_lookUp) ∈ cs_WS := List.mem_append_right _ (List.mem_append_right _ (List.mem_append_right _ (List.mem_append_right _ (List.mem_append_right _ (List.mem_append_right _ (List.mem_append_right _ (List.mem_append_right _ (List.mem_append_right _ (List.mem_append_right _ (List.mem_append_left _ (List.mem_of_getElem? (i := 39) rfl)))))))))))
theorem q_440 : (Cond.methodLink RX6 199 yX6_valueOf) ∈ cs_WS := List.mem_append_right _ (List.mem_append_right _ (List.mem_append_right _ (List.mem_append_right _ (List.mem_append_right _ (List.mem_append_right _ (List.mem_append_right _ (List.mem_append_right _ (List.mem_append_right _ (List.mem_append_right _ (List.mem_append_right _ (List.mem_append_left _ (List.mem_of_getElem? (i := 0) rfl))))))))))))
theorem q_441 : (Cond.instanceMethod yX6_valueOf) ∈ cs_WS := List.mem_append_right _ (List.mem_append_right _ (List.mem_append_right _ (List.mem_append_right _ (List.mem_append_right _ (List.mem_append_right _ (List.mem_append_right _ (List.mem_append_right _ (List.mem_append_right _ (List.mem_append_right _ (List.mem_append_right _ (List.mem_append_left _ (List.mem_of_getElem? (i := 1) rfl))))))))))))
theorem q_442 : (Cond.selects RX6 yX6_valueOf yX6_valueOf) ∈ cs_WS := List.mem_append_right _ (List.mem_append_right _ (List.mem_append_right _ (List.mem_append_right _ (List.mem_append_right _ (List.mem_append_right _ (List.mem_append_right _ (List.mem_append_right _ (List.mem_append_right _ (List.mem_append_right _ (List.mem_append_right _ (List.mem_append_left _ (List.mem_of_getElem? (i := 2) rfl))))))))))))
theorem q_443 : (Cond.code yX6_getAt cX6_getAt 4 (some .int)) ∈ cs_WS := List.mem_append_right _ (List.mem_append_right _ (List.mem_append_right _ (List.mem_append_right _ (List.mem_append_right _ (List.mem_append_right _ (List.mem_append_right _ (List.mem_append_right _ (List.mem_append_right _ (List.mem_append_right _ (List.mem_append_right _ (List.mem_append_left _ (List.mem_of_getElem? (i := 3) rfl))))))))))))
theorem q_444 : (Cond.methodLink RX6 202 yX5_age) ∈ cs_WS := List.mem_append_right _ (List.mem_append_right _ (List.mem_append_right _ (List.mem_append_right _ (List.mem_append_right _ (List.mem_append_right _ (List.mem_append_right _ (List.mem_append_right _ (List.mem_append_right _ (List.mem_append_right _ (List.mem_append_right _ (List.mem_append_left _ (List.mem_of_getElem? (i := 4) rfl))))))))))))
theorem q_445 : (Cond.instanceMethod yX5_age) ∈ cs_WS := List.mem_append_right _ (List.mem_append_right _ (List.mem_append_right _ (List.mem_append_right _ (List.mem_append_right _ (List.mem_append_right _ (List.mem_append_right _ (List.mem_append_right _ (List.mem_append_right _ (List.mem_append_right _ (List.mem_append_right _ (List.mem_append_left _ (List.mem_of_getElem? (i := 5) rfl))))))))))))
theorem q_446 : (Cond.selects RX5 yX5_age yX5_age) ∈ cs_WS := List.mem_append_right _ (List.mem_append_right _ (List.mem_append_right _ (List.mem_append_right _ (List.mem_append_right _ (List.mem_append_right _ (List.mem_append_right _ (List.mem_append_right _ (List.mem_append_right _ (List.mem_append_right _ (List.mem_append_right _ (List.mem_append_left _ (List.mem_of_getElem? (i := 6) rfl))))))))))))
theorem q_447 : (Cond.code yX6_listThere cX6_listThere 2 (some (.object "SiltStore$Row"))) ∈ cs_WS := List.mem_append_right _ (List.mem_append_right _ (List.mem_append_right _ (List.mem_append_right _ (List.mem_append_right _ (List.mem_append_right _ (List.mem_append_right _ (List.mem_append_right _ (List.mem_append_right _ (List.mem_append_right _ (List.mem_append_right _ (List.mem_append_left _ (List.mem_of_getElem? (i := 7) rfl))))))))))))
theorem q_448 : (Cond.methodLink RX6 397 yX2_keepThere) ∈ cs_WS := List.mem_append_right _ (List.mem_append_right _ (List.mem_append_right _ (List.mem_append_right _ (List.mem_append_right _ (List.mem_append_right _ (List.mem_append_right _ (List.mem_append_right _ (List.mem_append_right _ (List.mem_append_right _ (List.mem_append_right _ (List.mem_append_left _ (List.mem_of_getElem? (i := 8) rfl))))))))))))
theorem q_449 : (Cond.instanceMethod yX2_keepThere) ∈ cs_WS := List.mem_append_right _ (List.mem_append_right _ (List.mem_append_right _ (List.mem_append_right _ (List.mem_append_right _ (List.mem_append_right _ (List.mem_append_right _ (List.mem_append_right _ (List.mem_append_right _ (List.mem_append_right _ (List.mem_append_right _ (List.mem_append_left _ (List.mem_of_getElem? (i := 9) rfl))))))))))))
theorem q_450 : (Cond.selects RX2 yX2_keepThere yX2_keepThere) ∈ cs_WS := List.mem_append_right _ (List.mem_append_right _ (List.mem_append_right _ (List.mem_append_right _ (List.mem_append_right _ (List.mem_append_right _ (List.mem_append_right _ (List.mem_append_right _ (List.mem_append_right _ (List.mem_append_right _ (List.mem_append_right _ (List.mem_append_left _ (List.mem_of_getElem? (i := 10) rfl))))))))))))
theorem q_451 : (Cond.code yX6_next cX6_next 5 (some .int)) ∈ cs_WS := List.mem_append_right _ (List.mem_append_right _ (List.mem_append_right _ (List.mem_append_right _ (List.mem_append_right _ (List.mem_append_right _ (List.mem_append_right _ (List.mem_append_right _ (List.mem_append_right _ (List.mem_append_right _ (List.mem_append_right _ (List.mem_append_left _ (List.mem_of_getElem? (i := 11) rfl))))))))))))
theorem q_452 : (Cond.methodLink RX6 207 yX6_listThere) ∈ cs_WS := List.mem_append_right _ (List.mem_append_right _ (List.mem_append_right _ (List.mem_append_right _ (List.mem_append_right _ (List.mem_append_right _ (List.mem_append_right _ (List.mem_append_right _ (List.mem_append_right _ (List.mem_append_right _ (List.mem_append_right _ (List.mem_append_left _ (List.mem_of_getElem? (i := 12) rfl))))))))))))
theorem q_453 : (Cond.instanceMethod yX6_listThere) ∈ cs_WS := List.mem_append_right _ (List.mem_append_right _ (List.mem_append_right _ (List.mem_append_right _ (List.mem_append_right _ (List.mem_append_right _ (List.mem_append_right _ (List.mem_append_right _ (List.mem_append_right _ (List.mem_append_right _ (List.mem_append_right _ (List.mem_append_left _ (List.mem_of_getElem? (i := 13) rfl))))))))))))
theorem q_454 : (Cond.selects RX6 yX6_listThere yX6_listThere) ∈ cs_WS := List.mem_append_right _ (List.mem_append_right _ (List.mem_append_right _ (List.mem_append_right _ (List.mem_append_right _ (List.mem_append_right _ (List.mem_append_right _ (List.mem_append_right _ (List.mem_append_right _ (List.mem_append_right _ (List.mem_append_right _ (List.mem_append_left _ (List.mem_of_getElem? (i := 14) rfl))))))))))))
theorem q_455 : (Cond.methodLink RX6 214 yX1_key) ∈ cs_WS := List.mem_append_right _ (List.mem_append_right _ (List.mem_append_right _ (List.mem_append_right _ (List.mem_append_right _ (List.mem_append_right _ (List.mem_append_right _ (List.mem_append_right _ (List.mem_append_right _ (List.mem_append_right _ (List.mem_append_right _ (List.mem_append_left _ (List.mem_of_getElem? (i := 15) rfl))))))))))))
theorem q_456 : (Cond.code yX6_checkKeys cX6_checkKeys 2 none) ∈ cs_WS := List.mem_append_right _ (List.mem_append_right _ (List.mem_append_right _ (List.mem_append_right _ (List.mem_append_right _ (List.mem_append_right _ (List.mem_append_right _ (List.mem_append_right _ (List.mem_append_right _ (List.mem_append_right _ (List.mem_append_right _ (List.mem_append_left _ (List.mem_of_getElem? (i := 16) rfl))))))))))))
theorem q_457 : (Cond.code yX6_sum cX6_sum 7 (some .int)) ∈ cs_WS := List.mem_append_right _ (List.mem_append_right _ (List.mem_append_right _ (List.mem_append_right _ (List.mem_append_right _ (List.mem_append_right _ (List.mem_append_right _ (List.mem_append_right _ (List.mem_append_right _ (List.mem_append_right _ (List.mem_append_right _ (List.mem_append_left _ (List.mem_of_getElem? (i := 17) rfl))))))))))))
theorem q_458 : (Cond.methodLink RX6 217 yX6_checkKeys) ∈ cs_WS := List.mem_append_right _ (List.mem_append_right _ (List.mem_append_right _ (List.mem_append_right _ (List.mem_append_right _ (List.mem_append_right _ (List.mem_append_right _ (List.mem_append_right _ (List.mem_append_right _ (List.mem_append_right _ (List.mem_append_right _ (List.mem_append_left _ (List.mem_of_getElem? (i := 18) rfl))))))))))))
theorem q_459 : (Cond.static yX6_checkKeys) ∈ cs_WS := List.mem_append_right _ (List.mem_append_right _ (List.mem_append_right _ (List.mem_append_right _ (List.mem_append_right _ (List.mem_append_right _ (List.mem_append_right _ (List.mem_append_right _ (List.mem_append_right _ (List.mem_append_right _ (List.mem_append_right _ (List.mem_append_left _ (List.mem_of_getElem? (i := 19) rfl))))))))))))
theorem q_460 : (Cond.code yX6_keys cX6_keys 1 (some .int)) ∈ cs_WS := List.mem_append_right _ (List.mem_append_right _ (List.mem_append_right _ (List.mem_append_right _ (List.mem_append_right _ (List.mem_append_right _ (List.mem_append_right _ (List.mem_append_right _ (List.mem_append_right _ (List.mem_append_right _ (List.mem_append_right _ (List.mem_append_left _ (List.mem_of_getElem? (i := 20) rfl))))))))))))
theorem q_461 : (Cond.code yX6_hand cX6_hand 1 (some .int)) ∈ cs_WS := List.mem_append_right _ (List.mem_append_right _ (List.mem_append_right _ (List.mem_append_right _ (List.mem_append_right _ (List.mem_append_right _ (List.mem_append_right _ (List.mem_append_right _ (List.mem_append_right _ (List.mem_append_right _ (List.mem_append_right _ (List.mem_append_left _ (List.mem_of_getElem? (i := 21) rfl))))))))))))
theorem q_462 : (Cond.code yX6_log cX6_log 1 (some .int)) ∈ cs_WS := List.mem_append_right _ (List.mem_append_right _ (List.mem_append_right _ (List.mem_append_right _ (List.mem_append_right _ (List.mem_append_right _ (List.mem_append_right _ (List.mem_append_right _ (List.mem_append_right _ (List.mem_append_right _ (List.mem_append_right _ (List.mem_append_left _ (List.mem_of_getElem? (i := 22) rfl))))))))))))
theorem q_463 : (Cond.code yX6_unsafe cX6_unsafe 1 (some .int)) ∈ cs_WS := List.mem_append_right _ (List.mem_append_right _ (List.mem_append_right _ (List.mem_append_right _ (List.mem_append_right _ (List.mem_append_right _ (List.mem_append_right _ (List.mem_append_right _ (List.mem_append_right _ (List.mem_append_right _ (List.mem_append_right _ (List.mem_append_left _ (List.mem_of_getElem? (i := 23) rfl))))))))))))
theorem q_464 : (Cond.code yX6_snapshots cX6_snapshots 1 (some .int)) ∈ cs_WS := List.mem_append_right _ (List.mem_append_right _ (List.mem_append_right _ (List.mem_append_right _ (List.mem_append_right _ (List.mem_append_right _ (List.mem_append_right _ (List.mem_append_right _ (List.mem_append_right _ (List.mem_append_right _ (List.mem_append_right _ (List.mem_append_left _ (List.mem_of_getElem? (i := 24) rfl))))))))))))
theorem q_465 : (Cond.code yX6_runs cX6_runs 2 (some .int)) ∈ cs_WS := List.mem_append_right _ (List.mem_append_right _ (List.mem_append_right _ (List.mem_append_right _ (List.mem_append_right _ (List.mem_append_right _ (List.mem_append_right _ (List.mem_append_right _ (List.mem_append_right _ (List.mem_append_right _ (List.mem_append_right _ (List.mem_append_left _ (List.mem_of_getElem? (i := 25) rfl))))))))))))
theorem q_466 : (Cond.code yX6_numberOf cX6_numberOf 3 (some .int)) ∈ cs_WS := List.mem_append_right _ (List.mem_append_right _ (List.mem_append_right _ (List.mem_append_right _ (List.mem_append_right _ (List.mem_append_right _ (List.mem_append_right _ (List.mem_append_right _ (List.mem_append_right _ (List.mem_append_right _ (List.mem_append_right _ (List.mem_append_left _ (List.mem_of_getElem? (i := 26) rfl))))))))))))
theorem q_467 : (Cond.code yX6_size cX6_size 3 (some .int)) ∈ cs_WS := List.mem_append_right _ (List.mem_append_right _ (List.mem_append_right _ (List.mem_append_right _ (List.mem_append_right _ (List.mem_append_right _ (List.mem_append_right _ (List.mem_append_right _ (List.mem_append_right _ (List.mem_append_right _ (List.mem_append_right _ (List.mem_append_left _ (List.mem_of_getElem? (i := 27) rfl))))))))))))
theorem q_468 : (Cond.methodLink RX6 226 yX6_numberOf) ∈ cs_WS := List.mem_append_right _ (List.mem_append_right _ (List.mem_append_right _ (List.mem_append_right _ (List.mem_append_right _ (List.mem_append_right _ (List.mem_append_right _ (List.mem_append_right _ (List.mem_append_right _ (List.mem_append_right _ (List.mem_append_right _ (List.mem_append_left _ (List.mem_of_getElem? (i := 28) rfl))))))))))))
theorem q_469 : (Cond.instanceMethod yX6_numberOf) ∈ cs_WS := List.mem_append_right _ (List.mem_append_right _ (List.mem_append_right _ (List.mem_append_right _ (List.mem_append_right _ (List.mem_append_right _ (List.mem_append_right _ (List.mem_append_right _ (List.mem_append_right _ (List.mem_append_right _ (List.mem_append_right _ (List.mem_append_left _ (List.mem_of_getElem? (i := 29) rfl))))))))))))
theorem q_470 : (Cond.selects RX6 yX6_numberOf yX6_numberOf) ∈ cs_WS := List.mem_append_right _ (List.mem_append_right _ (List.mem_append_right _ (List.mem_append_right _ (List.mem_append_right _ (List.mem_append_right _ (List.mem_append_right _ (List.mem_append_right _ (List.mem_append_right _ (List.mem_append_right _ (List.mem_append_right _ (List.mem_append_left _ (List.mem_of_getElem? (i := 30) rfl))))))))))))
theorem q_471 : (Cond.methodLink RX6 229 yX4_length) ∈ cs_WS := List.mem_append_right _ (List.mem_append_right _ (List.mem_append_right _ (List.mem_append_right _ (List.mem_append_right _ (List.mem_append_right _ (List.mem_append_right _ (List.mem_append_right _ (List.mem_append_right _ (List.mem_append_right _ (List.mem_append_right _ (List.mem_append_left _ (List.mem_of_getElem? (i := 31) rfl))))))))))))
theorem q_472 : (Cond.instanceMethod yX4_length) ∈ cs_WS := List.mem_append_right _ (List.mem_append_right _ (List.mem_append_right _ (List.mem_append_right _ (List.mem_append_right _ (List.mem_append_right _ (List.mem_append_right _ (List.mem_append_right _ (List.mem_append_right _ (List.mem_append_right _ (List.mem_append_right _ (List.mem_append_left _ (List.mem_of_getElem? (i := 32) rfl))))))))))))
theorem q_473 : (Cond.selects RX4 yX4_length yX4_length) ∈ cs_WS := List.mem_append_right _ (List.mem_append_right _ (List.mem_append_right _ (List.mem_append_right _ (List.mem_append_right _ (List.mem_append_right _ (List.mem_append_right _ (List.mem_append_right _ (List.mem_append_right _ (List.mem_append_right _ (List.mem_append_right _ (List.mem_append_left _ (List.mem_of_getElem? (i := 33) rfl))))))))))))
theorem q_474 : (Cond.code yX6_entry cX6_entry 7 (some .int)) ∈ cs_WS := List.mem_append_right _ (List.mem_append_right _ (List.mem_append_right _ (List.mem_append_right _ (List.mem_append_right _ (List.mem_append_right _ (List.mem_append_right _ (List.mem_append_right _ (List.mem_append_right _ (List.mem_append_right _ (List.mem_append_right _ (List.mem_append_left _ (List.mem_of_getElem? (i := 34) rfl))))))))))))
theorem q_475 : (Cond.methodLink RX6 238 yX4_age) ∈ cs_WS := List.mem_append_right _ (List.mem_append_right _ (List.mem_append_right _ (List.mem_append_right _ (List.mem_append_right _ (List.mem_append_right _ (List.mem_append_right _ (List.mem_append_right _ (List.mem_append_right _ (List.mem_append_right _ (List.mem_append_right _ (List.mem_append_left _ (List.mem_of_getElem? (i := 35) rfl))))))))))))
theorem q_476 : (Cond.instanceMethod yX4_age) ∈ cs_WS := List.mem_append_right _ (List.mem_append_right _ (List.mem_append_right _ (List.mem_append_right _ (List.mem_append_right _ (List.mem_append_right _ (List.mem_append_right _ (List.mem_append_right _ (List.mem_append_right _ (List.mem_append_right _ (List.mem_append_right _ (List.mem_append_left _ (List.mem_of_getElem? (i := 36) rfl))))))))))))
theorem q_477 : (Cond.selects RX4 yX4_age yX4_age) ∈ cs_WS := List.mem_append_right _ (List.mem_append_right _ (List.mem_append_right _ (List.mem_append_right _ (List.mem_append_right _ (List.mem_append_right _ (List.mem_append_right _ (List.mem_append_right _ (List.mem_append_right _ (List.mem_append_right _ (List.mem_append_right _ (List.mem_append_left _ (List.mem_of_getElem? (i := 37) rfl))))))))))))
theorem q_478 : (Cond.code yX6_mayHave cX6_mayHave 5 (some .boolean)) ∈ cs_WS := List.mem_append_right _ (List.mem_append_right _ (List.mem_append_right _ (List.mem_append_right _ (List.mem_append_right _ (List.mem_append_right _ (List.mem_append_right _ (List.mem_append_right _ (List.mem_append_right _ (List.mem_append_right _ (List.mem_append_right _ (List.mem_append_left _ (List.mem_of_getElem? (i := 38) rfl))))))))))))
theorem q_479 : (Cond.code yX6_entries cX6_entries 1 (some .int)) ∈ cs_WS := List.mem_append_right _ (List.mem_append_right _ (List.mem_append_right _ (List.mem_append_right _ (List.mem_append_right _ (List.mem_append_right _ (List.mem_append_right _ (List.mem_append_right _ (List.mem_append_right _ (List.mem_append_right _ (List.mem_append_right _ (List.mem_append_left _ (List.mem_of_getElem? (i := 39) rfl))))))))))))
theorem q_480 : (Cond.code yX6_stones cX6_stones 3 (some .int)) ∈ cs_WS := List.mem_append_right _ (List.mem_append_right _ (List.mem_append_right _ (List.mem_append_right _ (List.mem_append_right _ (List.mem_append_right _ (List.mem_append_right _ (List.mem_append_right _ (List.mem_append_right _ (List.mem_append_right _ (List.mem_append_right _ (List.mem_append_right _ (List.mem_append_left _ (List.mem_of_getElem? (i := 0) rfl)))))))))))))
theorem q_481 : (Cond.methodLink RX6 250 yX1_isStone) ∈ cs_WS := List.mem_append_right _ (List.mem_append_right _ (List.mem_append_right _ (List.mem_append_right _ (List.mem_append_right _ (List.mem_append_right _ (List.mem_append_right _ (List.mem_append_right _ (List.mem_append_right _ (List.mem_append_right _ (List.mem_append_right _ (List.mem_append_right _ (List.mem_append_left _ (List.mem_of_getElem? (i := 1) rfl)))))))))))))
theorem q_482 : (Cond.code yX6_counted cX6_counted 2 (some .int)) ∈ cs_WS := List.mem_append_right _ (List.mem_append_right _ (List.mem_append_right _ (List.mem_append_right _ (List.mem_append_right _ (List.mem_append_right _ (List.mem_append_right _ (List.mem_append_right _ (List.mem_append_right _ (List.mem_append_right _ (List.mem_append_right _ (List.mem_append_right _ (List.mem_append_left _ (List.mem_of_getElem? (i := 2) rfl)))))))))))))
theorem q_483 : (Cond.code yX6_amplification cX6_amplification 2 (some .double)) ∈ cs_WS := List.mem_append_right _ (List.mem_append_right _ (List.mem_append_right _ (List.mem_append_right _ (List.mem_append_right _ (List.mem_append_right _ (List.mem_append_right _ (List.mem_append_right _ (List.mem_append_right _ (List.mem_append_right _ (List.mem_append_right _ (List.mem_append_right _ (List.mem_append_left _ (List.mem_of_getElem? (i := 3) rfl)))))))))))))
theorem q_484 : (Cond.code yX6_cost cX6_cost 2 (some .int)) ∈ cs_WS := List.mem_append_right _ (List.mem_append_right _ (List.mem_append_right _ (List.mem_append_right _ (List.mem_append_right _ (List.mem_append_right _ (List.mem_append_right _ (List.mem_append_right _ (List.mem_append_right _ (List.mem_append_right _ (List.mem_append_right _ (List.mem_append_right _ (List.mem_append_left _ (List.mem_of_getElem? (i := 4) rfl)))))))))))))
theorem q_485 : (Cond.methodLink RX6 256 yX3_wipe) ∈ cs_WS := List.mem_append_right _ (List.mem_append_right _ (List.mem_append_right _ (List.mem_append_right _ (List.mem_append_right _ (List.mem_append_right _ (List.mem_append_right _ (List.mem_append_right _ (List.mem_append_right _ (List.mem_append_right _ (List.mem_append_right _ (List.mem_append_right _ (List.mem_append_left _ (List.mem_of_getElem? (i := 5) rfl)))))))))))))
theorem q_486 : (Cond.code yX6_wouldSave cX6_wouldSave 2 (some .int)) ∈ cs_WS := List.mem_append_right _ (List.mem_append_right _ (List.mem_append_right _ (List.mem_append_right _ (List.mem_append_right _ (List.mem_append_right _ (List.mem_append_right _ (List.mem_append_right _ (List.mem_append_right _ (List.mem_append_right _ (List.mem_append_right _ (List.mem_append_right _ (List.mem_append_left _ (List.mem_of_getElem? (i := 6) rfl)))))))))))))
theorem q_487 : (Cond.code yX6_getSafe cX6_getSafe 4 (some .int)) ∈ cs_WS := List.mem_append_right _ (List.mem_append_right _ (List.mem_append_right _ (List.mem_append_right _ (List.mem_append_right _ (List.mem_append_right _ (List.mem_append_right _ (List.mem_append_right _ (List.mem_append_right _ (List.mem_append_right _ (List.mem_append_right _ (List.mem_append_right _ (List.mem_append_left _ (List.mem_of_getElem? (i := 7) rfl)))))))))))))
theorem q_488 : (Cond.code yX6_digestRun cX6_digestRun 8 (some .long)) ∈ cs_WS := List.mem_append_right _ (List.mem_append_right _ (List.mem_append_right _ (List.mem_append_right _ (List.mem_append_right _ (List.mem_append_right _ (List.mem_append_right _ (List.mem_append_right _ (List.mem_append_right _ (List.mem_append_right _ (List.mem_append_right _ (List.mem_append_right _ (List.mem_append_left _ (List.mem_of_getElem? (i := 8) rfl)))))))))))))
theorem q_489 : (Cond.constantLong RX6 267 (31)) ∈ cs_WS := List.mem_append_right _ (List.mem_append_right _ (List.mem_append_right _ (List.mem_append_right _ (List.mem_append_right _ (List.mem_append_right _ (List.mem_append_right _ (List.mem_append_right _ (List.mem_append_right _ (List.mem_append_right _ (List.mem_append_right _ (List.mem_append_right _ (List.mem_append_left _ (List.mem_of_getElem? (i := 9) rfl)))))))))))))
theorem q_490 : (Cond.methodLink RX6 240 yX4_setBits) ∈ cs_WS := List.mem_append_right _ (List.mem_append_right _ (List.mem_append_right _ (List.mem_append_right _ (List.mem_append_right _ (List.mem_append_right _ (List.mem_append_right _ (List.mem_append_right _ (List.mem_append_right _ (List.mem_append_right _ (List.mem_append_right _ (List.mem_append_right _ (List.mem_append_left _ (List.mem_of_getElem? (i := 10) rfl)))))))))))))
theorem q_491 : (Cond.instanceMethod yX4_setBits) ∈ cs_WS := List.mem_append_right _ (List.mem_append_right _ (List.mem_append_right _ (List.mem_append_right _ (List.mem_append_right _ (List.mem_append_right _ (List.mem_append_right _ (List.mem_append_right _ (List.mem_append_right _ (List.mem_append_right _ (List.mem_append_right _ (List.mem_append_right _ (List.mem_append_left _ (List.mem_of_getElem? (i := 11) rfl)))))))))))))
theorem q_492 : (Cond.selects RX4 yX4_setBits yX4_setBits) ∈ cs_WS := List.mem_append_right _ (List.mem_append_right _ (List.mem_append_right _ (List.mem_append_right _ (List.mem_append_right _ (List.mem_append_right _ (List.mem_append_right _ (List.mem_append_right _ (List.mem_append_right _ (List.mem_append_right _ (List.mem_append_right _ (List.mem_append_right _ (List.mem_append_left _ (List.mem_of_getElem? (i := 12) rfl)))))))))))))
theorem q_493 : (Cond.code yX6_digest cX6_digest 5 (some .long)) ∈ cs_WS := List.mem_append_right _ (List.mem_append_right _ (List.mem_append_right _ (List.mem_append_right _ (List.mem_append_right _ (List.mem_append_right _ (List.mem_append_right _ (List.mem_append_right _ (List.mem_append_right _ (List.mem_append_right _ (List.mem_append_right _ (List.mem_append_right _ (List.mem_append_left _ (List.mem_of_getElem? (i := 13) rfl)))))))))))))
theorem q_494 : (Cond.constantLong RX6 265 (58046)) ∈ cs_WS := List.mem_append_right _ (List.mem_append_right _ (List.mem_append_right _ (List.mem_append_right _ (List.mem_append_right _ (List.mem_append_right _ (List.mem_append_right _ (List.mem_append_right _ (List.mem_append_right _ (List.mem_append_right _ (List.mem_append_right _ (List.mem_append_right _ (List.mem_append_left _ (List.mem_of_getElem? (i := 14) rfl)))))))))))))
theorem q_495 : (Cond.methodLink RX6 269 yX6_hand) ∈ cs_WS := List.mem_append_right _ (List.mem_append_right _ (List.mem_append_right _ (List.mem_append_right _ (List.mem_append_right _ (List.mem_append_right _ (List.mem_append_right _ (List.mem_append_right _ (List.mem_append_right _ (List.mem_append_right _ (List.mem_append_right _ (List.mem_append_right _ (List.mem_append_left _ (List.mem_of_getElem? (i := 15) rfl)))))))))))))
theorem q_496 : (Cond.instanceMethod yX6_hand) ∈ cs_WS := List.mem_append_right _ (List.mem_append_right _ (List.mem_append_right _ (List.mem_append_right _ (List.mem_append_right _ (List.mem_append_right _ (List.mem_append_right _ (List.mem_append_right _ (List.mem_append_right _ (List.mem_append_right _ (List.mem_append_right _ (List.mem_append_right _ (List.mem_append_left _ (List.mem_of_getElem? (i := 16) rfl)))))))))))))
theorem q_497 : (Cond.selects RX6 yX6_hand yX6_hand) ∈ cs_WS := List.mem_append_right _ (List.mem_append_right _ (List.mem_append_right _ (List.mem_append_right _ (List.mem_append_right _ (List.mem_append_right _ (List.mem_append_right _ (List.mem_append_right _ (List.mem_append_right _ (List.mem_append_right _ (List.mem_append_right _ (List.mem_append_right _ (List.mem_append_left _ (List.mem_of_getElem? (i := 17) rfl)))))))))))))
theorem q_498 : (Cond.methodLink RX6 272 yX6_log) ∈ cs_WS := List.mem_append_right _ (List.mem_append_right _ (List.mem_append_right _ (List.mem_append_right _ (List.mem_append_right _ (List.mem_append_right _ (List.mem_append_right _ (List.mem_append_right _ (List.mem_append_right _ (List.mem_append_right _ (List.mem_append_right _ (List.mem_append_right _ (List.mem_append_left _ (List.mem_of_getElem? (i := 18) rfl)))))))))))))
theorem q_499 : (Cond.instanceMethod yX6_log) ∈ cs_WS := List.mem_append_right _ (List.mem_append_right _ (List.mem_append_right _ (List.mem_append_right _ (List.mem_append_right _ (List.mem_append_right _ (List.mem_append_right _ (List.mem_append_right _ (List.mem_append_right _ (List.mem_append_right _ (List.mem_append_right _ (List.mem_append_right _ (List.mem_append_left _ (List.mem_of_getElem? (i := 19) rfl)))))))))))))
theorem q_500 : (Cond.selects RX6 yX6_log yX6_log) ∈ cs_WS := List.mem_append_right _ (List.mem_append_right _ (List.mem_append_right _ (List.mem_append_right _ (List.mem_append_right _ (List.mem_append_right _ (List.mem_append_right _ (List.mem_append_right _ (List.mem_append_right _ (List.mem_append_right _ (List.mem_append_right _ (List.mem_append_right _ (List.mem_append_left _ (List.mem_of_getElem? (i := 20) rfl)))))))))))))
theorem q_501 : (Cond.methodLink RX6 275 yX6_unsafe) ∈ cs_WS := List.mem_append_right _ (List.mem_append_right _ (List.mem_append_right _ (List.mem_append_right _ (List.mem_append_right _ (List.mem_append_right _ (List.mem_append_right _ (List.mem_append_right _ (List.mem_append_right _ (List.mem_append_right _ (List.mem_append_right _ (List.mem_append_right _ (List.mem_append_left _ (List.mem_of_getElem? (i := 21) rfl)))))))))))))
theorem q_502 : (Cond.instanceMethod yX6_unsafe) ∈ cs_WS := List.mem_append_right _ (List.mem_append_right _ (List.mem_append_right _ (List.mem_append_right _ (List.mem_append_right _ (List.mem_append_right _ (List.mem_append_right _ (List.mem_append_right _ (List.mem_append_right _ (List.mem_append_right _ (List.mem_append_right _ (List.mem_append_right _ (List.mem_append_left _ (List.mem_of_getElem? (i := 22) rfl)))))))))))))
theorem q_503 : (Cond.selects RX6 yX6_unsafe yX6_unsafe) ∈ cs_WS := List.mem_append_right _ (List.mem_append_right _ (List.mem_append_right _ (List.mem_append_right _ (List.mem_append_right _ (List.mem_append_right _ (List.mem_append_right _ (List.mem_append_right _ (List.mem_append_right _ (List.mem_append_right _ (List.mem_append_right _ (List.mem_append_right _ (List.mem_append_left _ (List.mem_of_getElem? (i := 23) rfl)))))))))))))
theorem q_504 : (Cond.methodLink RX6 278 yX6_snapshots) ∈ cs_WS := List.mem_append_right _ (List.mem_append_right _ (List.mem_append_right _ (List.mem_append_right _ (List.mem_append_right _ (List.mem_append_right _ (List.mem_append_right _ (List.mem_append_right _ (List.mem_append_right _ (List.mem_append_right _ (List.mem_append_right _ (List.mem_append_right _ (List.mem_append_left _ (List.mem_of_getElem? (i := 24) rfl)))))))))))))
theorem q_505 : (Cond.instanceMethod yX6_snapshots) ∈ cs_WS := List.mem_append_right _ (List.mem_append_right _ (List.mem_append_right _ (List.mem_append_right _ (List.mem_append_right _ (List.mem_append_right _ (List.mem_append_right _ (List.mem_append_right _ (List.mem_append_right _ (List.mem_append_right _ (List.mem_append_right _ (List.mem_append_right _ (List.mem_append_left _ (List.mem_of_getElem? (i := 25) rfl)))))))))))))
theorem q_506 : (Cond.selects RX6 yX6_snapshots yX6_snapshots) ∈ cs_WS := List.mem_append_right _ (List.mem_append_right _ (List.mem_append_right _ (List.mem_append_right _ (List.mem_append_right _ (List.mem_append_right _ (List.mem_append_right _ (List.mem_append_right _ (List.mem_append_right _ (List.mem_append_right _ (List.mem_append_right _ (List.mem_append_right _ (List.mem_append_left _ (List.mem_of_getElem? (i := 26) rfl)))))))))))))
theorem q_507 : (Cond.methodLink RX6 281 yX6_keys) ∈ cs_WS := List.mem_append_right _ (List.mem_append_right _ (List.mem_append_right _ (List.mem_append_right _ (List.mem_append_right _ (List.mem_append_right _ (List.mem_append_right _ (List.mem_append_right _ (List.mem_append_right _ (List.mem_append_right _ (List.mem_append_right _ (List.mem_append_right _ (List.mem_append_left _ (List.mem_of_getElem? (i := 27) rfl)))))))))))))
theorem q_508 : (Cond.instanceMethod yX6_keys) ∈ cs_WS := List.mem_append_right _ (List.mem_append_right _ (List.mem_append_right _ (List.mem_append_right _ (List.mem_append_right _ (List.mem_append_right _ (List.mem_append_right _ (List.mem_append_right _ (List.mem_append_right _ (List.mem_append_right _ (List.mem_append_right _ (List.mem_append_right _ (List.mem_append_left _ (List.mem_of_getElem? (i := 28) rfl)))))))))))))
theorem q_509 : (Cond.selects RX6 yX6_keys yX6_keys) ∈ cs_WS := List.mem_append_right _ (List.mem_append_right _ (List.mem_append_right _ (List.mem_append_right _ (List.mem_append_right _ (List.mem_append_right _ (List.mem_append_right _ (List.mem_append_right _ (List.mem_append_right _ (List.mem_append_right _ (List.mem_append_right _ (List.mem_append_right _ (List.mem_append_left _ (List.mem_of_getElem? (i := 29) rfl)))))))))))))
theorem q_510 : (Cond.methodLink RX6 284 yX6_entries) ∈ cs_WS := List.mem_append_right _ (List.mem_append_right _ (List.mem_append_right _ (List.mem_append_right _ (List.mem_append_right _ (List.mem_append_right _ (List.mem_append_right _ (List.mem_append_right _ (List.mem_append_right _ (List.mem_append_right _ (List.mem_append_right _ (List.mem_append_right _ (List.mem_append_left _ (List.mem_of_getElem? (i := 30) rfl)))))))))))))
theorem q_511 : (Cond.instanceMethod yX6_entries) ∈ cs_WS := List.mem_append_right _ (List.mem_append_right _ (List.mem_append_right _ (List.mem_append_right _ (List.mem_append_right _ (List.mem_append_right _ (List.mem_append_right _ (List.mem_append_right _ (List.mem_append_right _ (List.mem_append_right _ (List.mem_append_right _ (List.mem_append_right _ (List.mem_append_left _ (List.mem_of_getElem? (i := 31) rfl)))))))))))))
theorem q_512 : (Cond.selects RX6 yX6_entries yX6_entries) ∈ cs_WS := List.mem_append_right _ (List.mem_append_right _ (List.mem_append_right _ (List.mem_append_right _ (List.mem_append_right _ (List.mem_append_right _ (List.mem_append_right _ (List.mem_append_right _ (List.mem_append_right _ (List.mem_append_right _ (List.mem_append_right _ (List.mem_append_right _ (List.mem_append_left _ (List.mem_of_getElem? (i := 32) rfl)))))))))))))
theorem q_513 : (Cond.methodLink RX6 287 yX6_stones) ∈ cs_WS := List.mem_append_right _ (List.mem_append_right _ (List.mem_append_right _ (List.mem_append_right _ (List.mem_append_right _ (List.mem_append_right _ (List.mem_append_right _ (List.mem_append_right _ (List.mem_append_right _ (List.mem_append_right _ (List.mem_append_right _ (List.mem_append_right _ (List.mem_append_left _ (List.mem_of_getElem? (i := 33) rfl)))))))))))))
theorem q_514 : (Cond.instanceMethod yX6_stones) ∈ cs_WS := List.mem_append_right _ (List.mem_append_right _ (List.mem_append_right _ (List.mem_append_right _ (List.mem_append_right _ (List.mem_append_right _ (List.mem_append_right _ (List.mem_append_right _ (List.mem_append_right _ (List.mem_append_right _ (List.mem_append_right _ (List.mem_append_right _ (List.mem_append_left _ (List.mem_of_getElem? (i := 34) rfl)))))))))))))
theorem q_515 : (Cond.selects RX6 yX6_stones yX6_stones) ∈ cs_WS := List.mem_append_right _ (List.mem_append_right _ (List.mem_append_right _ (List.mem_append_right _ (List.mem_append_right _ (List.mem_append_right _ (List.mem_append_right _ (List.mem_append_right _ (List.mem_append_right _ (List.mem_append_right _ (List.mem_append_right _ (List.mem_append_right _ (List.mem_append_left _ (List.mem_of_getElem? (i := 35) rfl)))))))))))))
theorem q_516 : (Cond.methodLink RX6 290 yX6_digestRun) ∈ cs_WS := List.mem_append_right _ (List.mem_append_right _ (List.mem_append_right _ (List.mem_append_right _ (List.mem_append_right _ (List.mem_append_right _ (List.mem_append_right _ (List.mem_append_right _ (List.mem_append_right _ (List.mem_append_right _ (List.mem_append_right _ (List.mem_append_right _ (List.mem_append_left _ (List.mem_of_getElem? (i := 36) rfl)))))))))))))
theorem q_517 : (Cond.instanceMethod yX6_digestRun) ∈ cs_WS := List.mem_append_right _ (List.mem_append_right _ (List.mem_append_right _ (List.mem_append_right _ (List.mem_append_right _ (List.mem_append_right _ (List.mem_append_right _ (List.mem_append_right _ (List.mem_append_right _ (List.mem_append_right _ (List.mem_append_right _ (List.mem_append_right _ (List.mem_append_left _ (List.mem_of_getElem? (i := 37) rfl)))))))))))))
theorem q_518 : (Cond.selects RX6 yX6_digestRun yX6_digestRun) ∈ cs_WS := List.mem_append_right _ (List.mem_append_right _ (List.mem_append_right _ (List.mem_append_right _ (List.mem_append_right _ (List.mem_append_right _ (List.mem_append_right _ (List.mem_append_right _ (List.mem_append_right _ (List.mem_append_right _ (List.mem_append_right _ (List.mem_append_right _ (List.mem_append_left _ (List.mem_of_getElem? (i := 38) rfl)))))))))))))
theorem q_519 : (Cond.methodLink RX6 294 yX6_sum) ∈ cs_WS := List.mem_append_right _ (List.mem_append_right _ (List.mem_append_right _ (List.mem_append_right _ (List.mem_append_right _ (List.mem_append_right _ (List.mem_append_right _ (List.mem_append_right _ (List.mem_append_right _ (List.mem_append_right _ (List.mem_append_right _ (List.mem_append_right _ (List.mem_append_left _ (List.mem_of_getElem? (i := 39) rfl)))))))))))))
theorem q_520 : (Cond.instanceMethod yX6_sum) ∈ cs_WS := List.mem_append_right _ (List.mem_append_right _ (List.mem_append_right _ (List.mem_append_right _ (List.mem_append_right _ (List.mem_append_right _ (List.mem_append_right _ (List.mem_append_right _ (List.mem_append_right _ (List.mem_append_right _ (List.mem_append_right _ (List.mem_append_right _ (List.mem_append_right _ (List.mem_append_left _ (List.mem_of_getElem? (i := 0) rfl))))))))))))))
theorem q_521 : (Cond.selects RX6 yX6_sum yX6_sum) ∈ cs_WS := List.mem_append_right _ (List.mem_append_right _ (List.mem_append_right _ (List.mem_append_right _ (List.mem_append_right _ (List.mem_append_right _ (List.mem_append_right _ (List.mem_append_right _ (List.mem_append_right _ (List.mem_append_right _ (List.mem_append_right _ (List.mem_append_right _ (List.mem_append_right _ (List.mem_append_left _ (List.mem_of_getElem? (i := 1) rfl))))))))))))))
theorem in_X0 : ∀ w ∈ u_ws RX0 TX0 3, w ∈ cs_WS := fun _ h => List.mem_append_right _ (List.mem_append_right _ (List.mem_append_right _ (List.mem_append_right _ (List.mem_append_right _ (List.mem_append_right _ (List.mem_append_right _ (List.mem_append_right _ (List.mem_append_right _ (List.mem_append_right _ (List.mem_append_right _ (List.mem_append_right _ (List.mem_append_right _ (List.mem_append_right _ (List.mem_append_left _ h))))))))))))))
theorem in_X1 : ∀ w ∈ u_ws RX1 TX1 3, w ∈ cs_WS := fun _ h => List.mem_append_right _ (List.mem_append_right _ (List.mem_append_right _ (List.mem_append_right _ (List.mem_append_right _ (List.mem_append_right _ (List.mem_append_right _ (List.mem_append_right _ (List.mem_append_right _ (List.mem_append_right _ (List.mem_append_right _ (List.mem_append_right _ (List.mem_append_right _ (List.mem_append_right _ (List.mem_append_right _ (List.mem_append_left _ h)))))))))))))))
theorem in_X2 : ∀ w ∈ u_ws RX2 TX2 4, w ∈ cs_WS := fun _ h => List.mem_append_right _ (List.mem_append_right _ (List.mem_append_right _ (List.mem_append_right _ (List.mem_append_right _ (List.mem_append_right _ (List.mem_append_right _ (List.mem_append_right _ (List.mem_append_right _ (List.mem_append_right _ (List.mem_append_right _ (List.mem_append_right _ (List.mem_append_right _ (List.mem_append_right _ (List.mem_append_right _ (List.mem_append_right _ (List.mem_append_left _ h))))))))))))))))
theorem in_X3 : ∀ w ∈ u_ws RX3 TX3 2, w ∈ cs_WS := fun _ h => List.mem_append_right _ (List.mem_append_right _ (List.mem_append_right _ (List.mem_append_right _ (List.mem_append_right _ (List.mem_append_right _ (List.mem_append_right _ (List.mem_append_right _ (List.mem_append_right _ (List.mem_append_right _ (List.mem_append_right _ (List.mem_append_right _ (List.mem_append_right _ (List.mem_append_right _ (List.mem_append_right _ (List.mem_append_right _ (List.mem_append_right _ (List.mem_append_left _ h)))))))))))))))))
theorem in_X4 : ∀ w ∈ u_ws RX4 TX4 8, w ∈ cs_WS := fun _ h => List.mem_append_right _ (List.mem_append_right _ (List.mem_append_right _ (List.mem_append_right _ (List.mem_append_right _ (List.mem_append_right _ (List.mem_append_right _ (List.mem_append_right _ (List.mem_append_right _ (List.mem_append_right _ (List.mem_append_right _ (List.mem_append_right _ (List.mem_append_right _ (List.mem_append_right _ (List.mem_append_right _ (List.mem_append_right _ (List.mem_append_right _ (List.mem_append_right _ (List.mem_append_left _ h))))))))))))))))))
theorem in_X5 : ∀ w ∈ u_ws RX5 TX5 3, w ∈ cs_WS := fun _ h => List.mem_append_right _ (List.mem_append_right _ (List.mem_append_right _ (List.mem_append_right _ (List.mem_append_right _ (List.mem_append_right _ (List.mem_append_right _ (List.mem_append_right _ (List.mem_append_right _ (List.mem_append_right _ (List.mem_append_right _ (List.mem_append_right _ (List.mem_append_right _ (List.mem_append_right _ (List.mem_append_right _ (List.mem_append_right _ (List.mem_append_right _ (List.mem_append_right _ (List.mem_append_right _ (List.mem_append_left _ h)))))))))))))))))))
theorem in_X6 : ∀ w ∈ u_ws RX6 TX6 15, w ∈ cs_WS := fun _ h => List.mem_append_right _ (List.mem_append_right _ (List.mem_append_right _ (List.mem_append_right _ (List.mem_append_right _ (List.mem_append_right _ (List.mem_append_right _ (List.mem_append_right _ (List.mem_append_right _ (List.mem_append_right _ (List.mem_append_right _ (List.mem_append_right _ (List.mem_append_right _ (List.mem_append_right _ (List.mem_append_right _ (List.mem_append_right _ (List.mem_append_right _ (List.mem_append_right _ (List.mem_append_right _ (List.mem_append_right _ (h))))))))))))))))))))
theorem cs_good : cs_WS.all goodWord = true := by decide +kernel
end
section
/-! the state of the class: 19 rows (what they hold, how many are used) and 9 numbers; its world is 44 cells -/
abbrev cs_R : Type := (Nat → Int32) × Nat
abbrev cs_St : Type := (Nat → cs_R) × (Nat → Int32)
def cs_cap : Nat → Nat
  | 0 => 6
  | 1 => 6
  | 2 => 4
  | 3 => 40
  | 4 => 40
  | 5 => 513
  | 6 => 513
  | 7 => 512
  | 8 => 4
  | 9 => 4
  | 10 => 512
  | 11 => 512
  | 12 => 512
  | 13 => 512
  | 14 => 512
  | 15 => 512
  | 16 => 4
  | 17 => 513
  | _ => 512
abbrev cs_cl : List vw_C := [(RX0, TX0, 3), (RX1, TX1, 3), (RX2, TX2, 4), (RX3, TX3, 2), (RX4, TX4, 8), (RX5, TX5, 3), (RX6, TX6, 15)]
def cs_W (cy : ClassId) (ad : Nat → Nat) (S : cs_St) : va_W := [(ad 0, .inr (6, [.int (S.2 0), .int (S.2 1), .int (S.2 2), .int (S.2 3), .int (S.2 4), .int (S.2 5), .int (S.2 6), .ref (ad 6), .ref (ad 8), .ref (ad 10), .ref (ad 1), .ref (ad 2), .ref (ad 3), .ref (ad 4), .ref (ad 5)])), (ad 1, .inr (0, [.ref (ad 12), .ref (ad 14), .int (S.2 7)])), (ad 2, .inr (1, [.ref (ad 16), .ref (ad 18), .ref (ad 20)])), (ad 3, .inr (5, [.ref (ad 22), .ref (ad 24), .int (S.2 8)])), (ad 4, .inr (4, [.ref (ad 2), .ref (ad 26), .ref (ad 28), .ref (ad 30), .ref (ad 32), .ref (ad 34), .ref (ad 36), .ref (ad 38)])), (ad 5, .inr (2, [.ref (ad 2), .ref (ad 3), .ref (ad 40), .ref (ad 42)])), (ad 6, .inr (3, [.ref (ad 7), .int (nI (S.1 0).2)])), (ad 7, .inl (cy, cs_cap 0, .inl (S.1 0).1)), (ad 8, .inr (3, [.ref (ad 9), .int (nI (S.1 1).2)])), (ad 9, .inl (cy, cs_cap 1, .inl (S.1 1).1)), (ad 10, .inr (3, [.ref (ad 11), .int (nI (S.1 2).2)])), (ad 11, .inl (cy, cs_cap 2, .inl (S.1 2).1)), (ad 12, .inr (3, [.ref (ad 13), .int (nI (S.1 3).2)])), (ad 13, .inl (cy, cs_cap 3, .inl (S.1 3).1)), (ad 14, .inr (3, [.ref (ad 15), .int (nI (S.1 4).2)])), (ad 15, .inl (cy, cs_cap 4, .inl (S.1 4).1)), (ad 16, .inr (3, [.ref (ad 17), .int (nI (S.1 5).2)])), (ad 17, .inl (cy, cs_cap 5, .inl (S.1 5).1)), (ad 18, .inr (3, [.ref (ad 19), .int (nI (S.1 6).2)])), (ad 19, .inl (cy, cs_cap 6, .inl (S.1 6).1)), (ad 20, .inr (3, [.ref (ad 21), .int (nI (S.1 7).2)])), (ad 21, .inl (cy, cs_cap 7, .inl (S.1 7).1)), (ad 22, .inr (3, [.ref (ad 23), .int (nI (S.1 8).2)])), (ad 23, .inl (cy, cs_cap 8, .inl (S.1 8).1)), (ad 24, .inr (3, [.ref (ad 25), .int (nI (S.1 9).2)])), (ad 25, .inl (cy, cs_cap 9, .inl (S.1 9).1)), (ad 26, .inr (3, [.ref (ad 27), .int (nI (S.1 10).2)])), (ad 27, .inl (cy, cs_cap 10, .inl (S.1 10).1)), (ad 28, .inr (3, [.ref (ad 29), .int (nI (S.1 11).2)])), (ad 29, .inl (cy, cs_cap 11, .inl (S.1 11).1)), (ad 30, .inr (3, [.ref (ad 31), .int (nI (S.1 12).2)])), (ad 31, .inl (cy, cs_cap 12, .inl (S.1 12).1)), (ad 32, .inr (3, [.ref (ad 33), .int (nI (S.1 13).2)])), (ad 33, .inl (cy, cs_cap 13, .inl (S.1 13).1)), (ad 34, .inr (3, [.ref (ad 35), .int (nI (S.1 14).2)])), (ad 35, .inl (cy, cs_cap 14, .inl (S.1 14).1)), (ad 36, .inr (3, [.ref (ad 37), .int (nI (S.1 15).2)])), (ad 37, .inl (cy, cs_cap 15, .inl (S.1 15).1)), (ad 38, .inr (3, [.ref (ad 39), .int (nI (S.1 16).2)])), (ad 39, .inl (cy, cs_cap 16, .inl (S.1 16).1)), (ad 40, .inr (3, [.ref (ad 41), .int (nI (S.1 17).2)])), (ad 41, .inl (cy, cs_cap 17, .inl (S.1 17).1)), (ad 42, .inr (3, [.ref (ad 43), .int (nI (S.1 18).2)])), (ad 43, .inl (cy, cs_cap 18, .inl (S.1 18).1))]
def cs_sR (S : cs_St) (i : Nat) (r : cs_R) : cs_St := (fun j => if j = i then r else S.1 j, S.2)
def cs_sS (S : cs_St) (k : Nat) (v : Int32) : cs_St := (S.1, fun j => if j = k then v else S.2 j)
def cs_A (ad : Nat → Nat) : Nat → Prop := fun q => ∃ k, k < 44 ∧ q = ad k
def cs_ok (S : cs_St) : Prop := (∀ j, j < 19 → (S.1 j).2 ≤ cs_cap j) ∧ (∀ k, (S.1 13).1 k ≤ 3) ∧ S.2 5 ≤ 3
def cs_ws (y : MethodName) (c : ByteArray) (n : Nat) (r : Option FieldType) : List Cond := Cond.code y c n r :: cs_WS
abbrev cs_rm (f L : Nat) : Room := { frames := f, cells := 0, slots := 0, locals := L }
def cs_w (D : va_G) (cy : ClassId) (ad : Nat → Nat) (S : cs_St) (H : Heap) : Prop := cs_ok S ∧ va_P D cs_cl (cs_W cy ad S) H ∧ va_D (cs_A ad) (cs_W cy ad S)
/-- the fields of nest mates, by the links of those that ask for them -/
def cs_nw : List (String × Nat × String × String × String × String) := [(RX6, 134, "SiltStore$Hand", "held", "LSiltStore$Row;", "SiltStore"), (RX6, 223, "SiltStore$Hand", "written", "LSiltStore$Row;", "SiltStore"), (RX6, 259, "SiltStore$Hand", "safe", "I", "SiltStore"), (RX2, 45, "SiltStore$Ledger", "order", "LSiltStore$Row;", "SiltStore"), (RX6, 247, "SiltStore$Shelf", "ages", "LSiltStore$Row;", "SiltStore"), (RX6, 330, "SiltStore$Pile", "left", "LSiltStore$Row;", "SiltStore")]
def cs_K (D : va_G) (cy : ClassId) (U : State) : Prop := va_K D cs_cl [(cy, .int)] U ∧ ∀ q ∈ cs_nw, va_Nw (.fieldLinkNest q.1 q.2.1 q.2.2.1 q.2.2.2.1 q.2.2.2.2.1 q.2.2.2.2.2) U
theorem cs_K.moved {D : va_G} {cy : ClassId} {s U : State} (hW : s.WarmedH U.vm) (h : cs_K D cy s) : cs_K D cy U := ⟨va_K.moved hW.alike h.1, fun q hq => va_Nw.warmF hW (h.2 q hq)⟩
theorem cs_K.same {D : va_G} {cy : ClassId} {u U : State} (hv : u.vm = U.vm) (h : cs_K D cy u) : cs_K D cy U := ⟨va_K.moved (hv ▸ Vm.Alike.refl u.vm) h.1, fun q hq => va_Nw.same rfl hv (h.2 q hq)⟩
def cs_B (D : va_G) (cy : ClassId) (ad : Nat → Nat) (S : cs_St) (t : State) : Prop := cs_w D cy ad S t.heap ∧ cs_K D cy t
abbrev cs_Pc (D : va_G) (cy : ClassId) (ad : Nat → Nat) (av : List Value) (S : cs_St) : Array Value → State → Prop := va_Pc av (fun U => cs_B D cy ad S U)
abbrev cs_Qi (D : va_G) (cy : ClassId) (ad : Nat → Nat) (post : Int32 → cs_St → Prop) : Array Value → State → Outcome → State → Prop := va_Qi post (fun S t => cs_B D cy ad S t) (cs_A ad)
abbrev cs_Ql (D : va_G) (cy : ClassId) (ad : Nat → Nat) (post : Int64 → cs_St → Prop) : Array Value → State → Outcome → State → Prop := va_Ql post (fun S t => cs_B D cy ad S t) (cs_A ad)
abbrev cs_Qd (D : va_G) (cy : ClassId) (ad : Nat → Nat) (post : UInt64 → cs_St → Prop) : Array Value → State → Outcome → State → Prop := va_Qd post (fun S t => cs_B D cy ad S t) (cs_A ad)
abbrev cs_Qv (D : va_G) (cy : ClassId) (ad : Nat → Nat) (post : cs_St → Prop) : Array Value → State → Outcome → State → Prop := va_Qv post (fun S t => cs_B D cy ad S t) (cs_A ad)
theorem cs_gO (cy : ClassId) (ad : Nat → Nat) (S : cs_St) : ∀ j, j < 19 → (cs_W cy ad S)[6 + 2 * j]? = some (ad (6 + 2 * j), .inr (3, [.ref (ad (7 + 2 * j)), .int (nI (S.1 j).2)]))
  | 0, _ => rfl
  | 1, _ => rfl
  | 2, _ => rfl
  | 3, _ => rfl
  | 4, _ => rfl
  | 5, _ => rfl
  | 6, _ => rfl
  | 7, _ => rfl
  | 8, _ => rfl
  | 9, _ => rfl
  | 10, _ => rfl
  | 11, _ => rfl
  | 12, _ => rfl
  | 13, _ => rfl
  | 14, _ => rfl
  | 15, _ => rfl
  | 16, _ => rfl
  | 17, _ => rfl
  | 18, _ => rfl
  | n + 19, h => absurd h (by omega)
theorem cs_gA (cy : ClassId) (ad : Nat → Nat) (S : cs_St) : ∀ j, j < 19 → (cs_W cy ad S)[7 + 2 * j]? = some (ad (7 + 2 * j), .inl (cy, cs_cap j, .inl (S.1 j).1))
  | 0, _ => rfl
  | 1, _ => rfl
  | 2, _ => rfl
  | 3, _ => rfl
  | 4, _ => rfl
  | 5, _ => rfl
  | 6, _ => rfl
  | 7, _ => rfl
  | 8, _ => rfl
  | 9, _ => rfl
  | 10, _ => rfl
  | 11, _ => rfl
  | 12, _ => rfl
  | 13, _ => rfl
  | 14, _ => rfl
  | 15, _ => rfl
  | 16, _ => rfl
  | 17, _ => rfl
  | 18, _ => rfl
  | n + 19, h => absurd h (by omega)
theorem cs_setO (cy : ClassId) (ad : Nat → Nat) (S : cs_St) (u : Nat) : ∀ j, j < 19 → (cs_W cy ad S).set (6 + 2 * j) (ad (6 + 2 * j), .inr (3, [.ref (ad (7 + 2 * j)), .int (nI u)])) = cs_W cy ad (cs_sR S j ((S.1 j).1, u))
  | 0, _ => rfl
  | 1, _ => rfl
  | 2, _ => rfl
  | 3, _ => rfl
  | 4, _ => rfl
  | 5, _ => rfl
  | 6, _ => rfl
  | 7, _ => rfl
  | 8, _ => rfl
  | 9, _ => rfl
  | 10, _ => rfl
  | 11, _ => rfl
  | 12, _ => rfl
  | 13, _ => rfl
  | 14, _ => rfl
  | 15, _ => rfl
  | 16, _ => rfl
  | 17, _ => rfl
  | 18, _ => rfl
  | n + 19, h => absurd h (by omega)
theorem cs_setA (cy : ClassId) (ad : Nat → Nat) (S : cs_St) (f : Nat → Int32) : ∀ j, j < 19 → (cs_W cy ad S).set (7 + 2 * j) (ad (7 + 2 * j), .inl (cy, cs_cap j, .inl f)) = cs_W cy ad (cs_sR S j (f, (S.1 j).2))
  | 0, _ => rfl
  | 1, _ => rfl
  | 2, _ => rfl
  | 3, _ => rfl
  | 4, _ => rfl
  | 5, _ => rfl
  | 6, _ => rfl
  | 7, _ => rfl
  | 8, _ => rfl
  | 9, _ => rfl
  | 10, _ => rfl
  | 11, _ => rfl
  | 12, _ => rfl
  | 13, _ => rfl
  | 14, _ => rfl
  | 15, _ => rfl
  | 16, _ => rfl
  | 17, _ => rfl
  | 18, _ => rfl
  | n + 19, h => absurd h (by omega)
theorem cs_addr (cy : ClassId) (ad : Nat → Nat) (S : cs_St) : (cs_W cy ad S).map Prod.fst = (List.range 44).map ad := rfl
theorem goodIn_sub' {ws : List Cond} (hm : ∀ w ∈ ws, w ∈ cs_WS) : GoodIn cs_WS ws := fun w hw => ⟨hm w hw, good_of_word (List.all_eq_true.mp cs_good w (hm w hw))⟩
theorem cs_cap_le : ∀ j, cs_cap j ≤ 513
  | 0 => by decide | 1 => by decide | 2 => by decide | 3 => by decide | 4 => by decide | 5 => by decide | 6 => by decide | 7 => by decide | 8 => by decide | 9 => by decide
  | 10 => by decide | 11 => by decide | 12 => by decide | 13 => by decide | 14 => by decide | 15 => by decide | 16 => by decide | 17 => by decide | 18 => by decide
  | n + 19 => by show 512 ≤ 513; decide
theorem cs_sR_ok {S : cs_St} {i : Nat} {r : cs_R} (h : cs_ok S) (hr : r.2 ≤ cs_cap i) (h3 : i = 13 → ∀ k, r.1 k ≤ 3) : cs_ok (cs_sR S i r) := by
  refine ⟨fun j hj => ?_, fun k => ?_, h.2.2⟩
  · show (if j = i then r else S.1 j).2 ≤ cs_cap j
    by_cases e : j = i
    · rw [if_pos e, e]; exact hr
    · rw [if_neg e]; exact h.1 j hj
  · show (if 13 = i then r else S.1 13).1 k ≤ 3
    by_cases e : 13 = i
    · rw [if_pos e]; exact h3 e.symm k
    · rw [if_neg e]; exact h.2.1 k
theorem cs_sS_ok {S : cs_St} {k : Nat} {v : Int32} (h : cs_ok S) (h5 : k = 5 → v ≤ 3) : cs_ok (cs_sS S k v) := by
  refine ⟨h.1, h.2.1, ?_⟩
  show (if 5 = k then v else S.2 5) ≤ 3
  by_cases e : 5 = k
  · rw [if_pos e]; exact h5 e.symm
  · rw [if_neg e]; exact h.2.2
/-- a named step of a walk: what is computed gets a name -/
def cs_let {α β : Type} (v : α) (f : α → β) : β := f v
theorem cs_letE {α β : Type} {v z : α} {f : α → β} {r : β} (h : z = v) (H : cs_let v f = r) : f z = r := by rw [h]; exact H
theorem cs_T {α : Type} {c : Prop} {i : Decidable c} {a b r : α} (h : c) (H : @ite α c i a b = r) : a = r := by rw [if_pos h] at H; exact H
theorem cs_F {α : Type} {c : Prop} {i : Decidable c} {a b r : α} (h : ¬ c) (H : @ite α c i a b = r) : b = r := by rw [if_neg h] at H; exact H
theorem cs_eq1 {α β : Type} {a : α} {b : β} {r : α × β} (H : (a, b) = r) : a = r.1 := by rw [← H]
theorem cs_eq2 {α β : Type} {a : α} {b : β} {r : α × β} (H : (a, b) = r) : b = r.2 := by rw [← H]
theorem cs_in {x : Int32} {n : Nat} (hn : n < 2 ^ 31) (h1 : ¬ x < 0) (h2 : ¬ nI n ≤ x) : vp_in x n := by
  obtain ⟨j, hj, rfl⟩ := nI_of h1
  exact vp_in_nI (by rw [nI_leI hn hj] at h2; omega) hn
theorem cs_goodV {own C : String} {idx : Nat} {y : MethodName} {c : ByteArray} {n : Nat} {r : Option FieldType} (h1 : Cond.methodLink own idx y ∈ cs_WS) (h2 : Cond.instanceMethod y ∈ cs_WS) (h3 : Cond.selects C y y ∈ cs_WS) (h4 : Cond.initialized C ∈ cs_WS) (h5 : Cond.code y c n r ∈ cs_WS) : GoodIn cs_WS (wsV own idx C y (cs_ws y c n r)) := by
  refine goodIn_sub' ?_
  intro w hw
  rcases List.mem_append.mp hw with h | h
  · simp only [List.mem_cons, List.not_mem_nil, or_false] at h
    rcases h with rfl | rfl | rfl | rfl
    · exact h1
    · exact h2
    · exact h3
    · exact h4
  · rcases List.mem_cons.mp h with rfl | h
    · exact h5
    · exact h
theorem cs_goodS {own : String} {idx : Nat} {y : MethodName} {c : ByteArray} {n : Nat} {r : Option FieldType} (h1 : Cond.methodLink own idx y ∈ cs_WS) (h2 : Cond.static y ∈ cs_WS) (h4 : Cond.initialized y.cls ∈ cs_WS) (h5 : Cond.code y c n r ∈ cs_WS) : GoodIn cs_WS (va_wsS own idx y (cs_ws y c n r)) := by
  refine goodIn_sub' ?_
  intro w hw
  rcases List.mem_append.mp hw with h | h
  · simp only [List.mem_cons, List.not_mem_nil, or_false] at h
    rcases h with rfl | rfl | rfl
    · exact h1
    · exact h2
    · exact h4
  · rcases List.mem_cons.mp h with rfl | h
    · exact h5
    · exact h
end
section
/-! rows over the class's world: a method's start, calls, ends, fields -/
section CSW
variable {p : Program} {l : Launch} {e : Env} {R : Room} {s : State} {m : MethodId} {args : Array Value} {below : List Frame} {meth : Method} {c : Code} {H H0 : Heap} {locs : List Loc} {Q : State → Prop} {D : va_G} {cy : ClassId} {ad : Nat → Nat} {S : cs_St} {pc : Nat} {ls : Array Slot} {rest : List Value} {cc : ByteArray} {nL : Nat} {own : String}
theorem cs_of {y : MethodName} {maxL : Nat} {ret : Option FieldType} {rm : Room} {av : List Value} {Qc : Array Value → State → Outcome → State → Prop} (own : String) (hy : plainName y.cls = true) (ho : y.cls = own) (hn : (lg_sl av).length ≤ maxL)
    (body : ∀ (p : Program) (e : Env) (s : State) (m : MethodId) (below : List Frame) (meth : Method) (c : Code), CallFix p m c cc maxL s av.toArray cs_WS own → meth.sig.returnType = ret → meth.locks = false → cs_w D cy ad S s.heap → cs_K D cy s → ∀ ls, lv_has ls maxL (lv_args 0 av) →
      W p l e rm s m av.toArray below meth c s.heap [] 0 0 (MQ below Qc av.toArray s 0 0 (cs_A ad)) (F0 m 0 ls [])) :
    Met l y (cs_ws y cc maxL ret) rm (cs_Pc D cy ad av S) Qc 0 0 (cs_A ad) := by
  refine Met.ofW (cc := cc) (maxL := maxL) (ret := ret) hy rfl ?_
  intro p e s m args below meth c s₁ B hml hv
  obtain ⟨rfl, hw, hK⟩ := hv
  have hts := atoms_spec (ws := cs_ws y cc maxL ret) B.pre
  have hown : s.vm.findClass y.cls = some m.cls := findClass_of_methodNamed B.named
  have hl := lv_entry av (n := maxL) hn
  rw [lg_entry_eq]
  exact body p e s m below meth c ⟨B.exec, B.bytes, hml, by rw [← ho]; exact hown, fun w h => hts w (List.mem_cons_of_mem _ h)⟩ B.returns B.notSynchronized hw hK _ hl
theorem cs_blind {av : List Value} : FrameBlind (cs_Pc D cy ad av S) := fun _ U g mk q => ⟨q.1, q.2.1, cs_K.same (u := U) (U := U.calling g mk _) rfl q.2.2⟩
theorem cs_recv (hK : cs_K D cy s) (hw : cs_w D cy ad S H) {a ci : Nat} {q : vw_C} {fs : List Value} (q0 : Nat) (hc : cs_cl[ci]? = some q) (he : (cs_W cy ad S)[q0]? = some (a, .inr (ci, fs))) : ∃ cell : Cell, H[a]? = some cell ∧ cell.vm.isStatics = false ∧ s.vm.findClass q.1 = some cell.cls := va_recv hK.1 hw.2.1 hc he
theorem cs_recvR (hK : cs_K D cy s) (hw : cs_w D cy ad S H) {j : Nat} (hj : j < 19) : ∃ cell : Cell, H[ad (6 + 2 * j)]? = some cell ∧ cell.vm.isStatics = false ∧ s.vm.findClass RX3 = some cell.cls := va_recv hK.1 hw.2.1 (ci := 3) rfl (cs_gO cy ad S j hj)
theorem cs_vi0 {y : MethodName} {bytes : ByteArray} {maxL n index : Nat} {ret : Option FieldType} {rm : Room} {C : String} {b : Addr} {As : List Value} {post : Int32 → cs_St → Prop} {st : List Value} (hF : CallFix p m c cc nL s args cs_WS own)
    (hM : Met l y (cs_ws y bytes maxL ret) rm (cs_Pc D cy ad (.ref b :: As) S) (cs_Qi D cy ad post) 0 0 (cs_A ad)) (cw : CallW R s args own C index y bytes maxL ret (cs_ws y bytes maxL ret) rm 0 0 n) (hv : ∃ cell : Cell, H[b]? = some cell ∧ cell.vm.isStatics = false ∧ s.vm.findClass C = some cell.cls)
    (hw : cs_w D cy ad S H) (hK : cs_K D cy s) (hS : va_S (cs_A ad) H0 H locs) (hn : As.length = n) (hl : ls.size = nL) (rest : List Value) (hst : st = As.reverse ++ .ref b :: rest) (h8 : (rest.map fun v => v.category).sum ≤ 8) (hdg : decode cc pc = .ok (.invokevirtual index, 3))
    (kk : ∀ (r : Int32) (S1 : cs_St) (H1 : Heap) (locs1 : List Loc), post r S1 → cs_w D cy ad S1 H1 → va_S (cs_A ad) H0 H1 locs1 → W p l e R s m args below meth c H1 locs1 0 0 Q (F0 m (pc + 3) ls (.int r :: rest))) : W p l e R s m args below meth c H locs 0 0 Q (F0 m pc ls st) :=
  va_calli (va_runV (As := As) (rest := rest) hF hM cw ⟨cs_blind, hv, fun U hU hW => ⟨rfl, by rw [hU]; exact hw, cs_K.moved hW hK⟩⟩ rfl hn hl hst (lv_room h8) hdg ⟨Nat.zero_le _, Nat.zero_le _⟩) hS (fun _ _ h => h) (fun _ h => h) (fun r u t H1 locs ht _ hp hB _ _ hS => kk r u H1 locs hp (by rw [← ht]; exact hB.1) hS)
theorem cs_vl0 {y : MethodName} {bytes : ByteArray} {maxL n index : Nat} {ret : Option FieldType} {rm : Room} {C : String} {b : Addr} {As : List Value} {post : Int64 → cs_St → Prop} {st : List Value} (hF : CallFix p m c cc nL s args cs_WS own)
    (hM : Met l y (cs_ws y bytes maxL ret) rm (cs_Pc D cy ad (.ref b :: As) S) (cs_Ql D cy ad post) 0 0 (cs_A ad)) (cw : CallW R s args own C index y bytes maxL ret (cs_ws y bytes maxL ret) rm 0 0 n) (hv : ∃ cell : Cell, H[b]? = some cell ∧ cell.vm.isStatics = false ∧ s.vm.findClass C = some cell.cls)
    (hw : cs_w D cy ad S H) (hK : cs_K D cy s) (hS : va_S (cs_A ad) H0 H locs) (hn : As.length = n) (hl : ls.size = nL) (rest : List Value) (hst : st = As.reverse ++ .ref b :: rest) (h8 : (rest.map fun v => v.category).sum ≤ 8) (hdg : decode cc pc = .ok (.invokevirtual index, 3))
    (kk : ∀ (r : Int64) (S1 : cs_St) (H1 : Heap) (locs1 : List Loc), post r S1 → cs_w D cy ad S1 H1 → va_S (cs_A ad) H0 H1 locs1 → W p l e R s m args below meth c H1 locs1 0 0 Q (F0 m (pc + 3) ls (.long r :: rest))) : W p l e R s m args below meth c H locs 0 0 Q (F0 m pc ls st) :=
  va_calll (va_runV (As := As) (rest := rest) hF hM cw ⟨cs_blind, hv, fun U hU hW => ⟨rfl, by rw [hU]; exact hw, cs_K.moved hW hK⟩⟩ rfl hn hl hst (lv_room h8) hdg ⟨Nat.zero_le _, Nat.zero_le _⟩) hS (fun _ _ h => h) (fun _ h => h) (fun r u t H1 locs ht _ hp hB _ _ hS => kk r u H1 locs hp (by rw [← ht]; exact hB.1) hS)
theorem cs_vv0 {y : MethodName} {bytes : ByteArray} {maxL n index : Nat} {ret : Option FieldType} {rm : Room} {C : String} {b : Addr} {As : List Value} {post : cs_St → Prop} {st : List Value} (hF : CallFix p m c cc nL s args cs_WS own)
    (hM : Met l y (cs_ws y bytes maxL ret) rm (cs_Pc D cy ad (.ref b :: As) S) (cs_Qv D cy ad post) 0 0 (cs_A ad)) (cw : CallW R s args own C index y bytes maxL ret (cs_ws y bytes maxL ret) rm 0 0 n) (hv : ∃ cell : Cell, H[b]? = some cell ∧ cell.vm.isStatics = false ∧ s.vm.findClass C = some cell.cls)
    (hw : cs_w D cy ad S H) (hK : cs_K D cy s) (hS : va_S (cs_A ad) H0 H locs) (hn : As.length = n) (hl : ls.size = nL) (rest : List Value) (hst : st = As.reverse ++ .ref b :: rest) (h8 : (rest.map fun v => v.category).sum ≤ 8) (hdg : decode cc pc = .ok (.invokevirtual index, 3))
    (kk : ∀ (S1 : cs_St) (H1 : Heap) (locs1 : List Loc), post S1 → cs_w D cy ad S1 H1 → va_S (cs_A ad) H0 H1 locs1 → W p l e R s m args below meth c H1 locs1 0 0 Q (F0 m (pc + 3) ls rest)) : W p l e R s m args below meth c H locs 0 0 Q (F0 m pc ls st) :=
  va_callv (va_runV (As := As) (rest := rest) hF hM cw ⟨cs_blind, hv, fun U hU hW => ⟨rfl, by rw [hU]; exact hw, cs_K.moved hW hK⟩⟩ rfl hn hl hst (lv_room h8) hdg ⟨Nat.zero_le _, Nat.zero_le _⟩) hS (fun _ _ h => h) (fun _ h => h) (fun u t H1 locs ht _ hp hB _ _ hS => kk u H1 locs hp (by rw [← ht]; exact hB.1) hS)
theorem cs_si0 {y : MethodName} {bytes : ByteArray} {maxL n index : Nat} {ret : Option FieldType} {rm : Room} {As : List Value} {post : Int32 → cs_St → Prop} {st : List Value} (hF : CallFix p m c cc nL s args cs_WS own)
    (hM : Met l y (cs_ws y bytes maxL ret) rm (cs_Pc D cy ad As S) (cs_Qi D cy ad post) 0 0 (cs_A ad)) (cw : CallB R s args own index y bytes maxL ret (cs_ws y bytes maxL ret) rm 0 0 n ∧ (Cond.static y).before args s = true)
    (hw : cs_w D cy ad S H) (hK : cs_K D cy s) (hS : va_S (cs_A ad) H0 H locs) (hn : As.length = n) (hl : ls.size = nL) (rest : List Value) (hst : st = As.reverse ++ rest) (h8 : (rest.map fun v => v.category).sum ≤ 8) (hdg : decode cc pc = .ok (.invokestatic index, 3))
    (kk : ∀ (r : Int32) (S1 : cs_St) (H1 : Heap) (locs1 : List Loc), post r S1 → cs_w D cy ad S1 H1 → va_S (cs_A ad) H0 H1 locs1 → W p l e R s m args below meth c H1 locs1 0 0 Q (F0 m (pc + 3) ls (.int r :: rest))) : W p l e R s m args below meth c H locs 0 0 Q (F0 m pc ls st) :=
  va_calli (va_runS (As := As) (rest := rest) hF hM cw ⟨cs_blind, fun U hU hW => ⟨rfl, by rw [hU]; exact hw, cs_K.moved hW hK⟩⟩ rfl hn hl hst (lv_room h8) hdg ⟨Nat.zero_le _, Nat.zero_le _⟩) hS (fun _ _ h => h) (fun _ h => h) (fun r u t H1 locs ht _ hp hB _ _ hS => kk r u H1 locs hp (by rw [← ht]; exact hB.1) hS)
theorem cs_sl0 {y : MethodName} {bytes : ByteArray} {maxL n index : Nat} {ret : Option FieldType} {rm : Room} {As : List Value} {post : Int64 → cs_St → Prop} {st : List Value} (hF : CallFix p m c cc nL s args cs_WS own)
    (hM : Met l y (cs_ws y bytes maxL ret) rm (cs_Pc D cy ad As S) (cs_Ql D cy ad post) 0 0 (cs_A ad)) (cw : CallB R s args own index y bytes maxL ret (cs_ws y bytes maxL ret) rm 0 0 n ∧ (Cond.static y).before args s = true)
    (hw : cs_w D cy ad S H) (hK : cs_K D cy s) (hS : va_S (cs_A ad) H0 H locs) (hn : As.length = n) (hl : ls.size = nL) (rest : List Value) (hst : st = As.reverse ++ rest) (h8 : (rest.map fun v => v.category).sum ≤ 8) (hdg : decode cc pc = .ok (.invokestatic index, 3))
    (kk : ∀ (r : Int64) (S1 : cs_St) (H1 : Heap) (locs1 : List Loc), post r S1 → cs_w D cy ad S1 H1 → va_S (cs_A ad) H0 H1 locs1 → W p l e R s m args below meth c H1 locs1 0 0 Q (F0 m (pc + 3) ls (.long r :: rest))) : W p l e R s m args below meth c H locs 0 0 Q (F0 m pc ls st) :=
  va_calll (va_runS (As := As) (rest := rest) hF hM cw ⟨cs_blind, fun U hU hW => ⟨rfl, by rw [hU]; exact hw, cs_K.moved hW hK⟩⟩ rfl hn hl hst (lv_room h8) hdg ⟨Nat.zero_le _, Nat.zero_le _⟩) hS (fun _ _ h => h) (fun _ h => h) (fun r u t H1 locs ht _ hp hB _ _ hS => kk r u H1 locs hp (by rw [← ht]; exact hB.1) hS)
theorem cs_sv0 {y : MethodName} {bytes : ByteArray} {maxL n index : Nat} {ret : Option FieldType} {rm : Room} {As : List Value} {post : cs_St → Prop} {st : List Value} (hF : CallFix p m c cc nL s args cs_WS own)
    (hM : Met l y (cs_ws y bytes maxL ret) rm (cs_Pc D cy ad As S) (cs_Qv D cy ad post) 0 0 (cs_A ad)) (cw : CallB R s args own index y bytes maxL ret (cs_ws y bytes maxL ret) rm 0 0 n ∧ (Cond.static y).before args s = true)
    (hw : cs_w D cy ad S H) (hK : cs_K D cy s) (hS : va_S (cs_A ad) H0 H locs) (hn : As.length = n) (hl : ls.size = nL) (rest : List Value) (hst : st = As.reverse ++ rest) (h8 : (rest.map fun v => v.category).sum ≤ 8) (hdg : decode cc pc = .ok (.invokestatic index, 3))
    (kk : ∀ (S1 : cs_St) (H1 : Heap) (locs1 : List Loc), post S1 → cs_w D cy ad S1 H1 → va_S (cs_A ad) H0 H1 locs1 → W p l e R s m args below meth c H1 locs1 0 0 Q (F0 m (pc + 3) ls rest)) : W p l e R s m args below meth c H locs 0 0 Q (F0 m pc ls st) :=
  va_callv (va_runS (As := As) (rest := rest) hF hM cw ⟨cs_blind, fun U hU hW => ⟨rfl, by rw [hU]; exact hw, cs_K.moved hW hK⟩⟩ rfl hn hl hst (lv_room h8) hdg ⟨Nat.zero_le _, Nat.zero_le _⟩) hS (fun _ _ h => h) (fun _ h => h) (fun u t H1 locs ht _ hp hB _ _ hS => kk u H1 locs hp (by rw [← ht]; exact hB.1) hS)
theorem cs_vir {y : MethodName} {bytes : ByteArray} {maxL n index : Nat} {ret : Option FieldType} {rm : Room} {C : String} {b : Addr} {As : List Value} {v : Int32} {st : List Value} (hF : CallFix p m c cc nL s args cs_WS own)
    (hM : Met l y (cs_ws y bytes maxL ret) rm (cs_Pc D cy ad (.ref b :: As) S) (cs_Qi D cy ad (fun r S1 => r = v ∧ S1 = S)) 0 0 (cs_A ad)) (cw : CallW R s args own C index y bytes maxL ret (cs_ws y bytes maxL ret) rm 0 0 n) (hv : ∃ cell : Cell, H[b]? = some cell ∧ cell.vm.isStatics = false ∧ s.vm.findClass C = some cell.cls)
    (hw : cs_w D cy ad S H) (hK : cs_K D cy s) (hS : va_S (cs_A ad) H0 H locs) (hn : As.length = n) (hl : ls.size = nL) (rest : List Value) (hst : st = As.reverse ++ .ref b :: rest) (h8 : (rest.map fun v => v.category).sum ≤ 8) (hdg : decode cc pc = .ok (.invokevirtual index, 3))
    (kk : ∀ (r : Int32) (H1 : Heap) (locs1 : List Loc), r = v → cs_w D cy ad S H1 → va_S (cs_A ad) H0 H1 locs1 → W p l e R s m args below meth c H1 locs1 0 0 Q (F0 m (pc + 3) ls (.int r :: rest))) : W p l e R s m args below meth c H locs 0 0 Q (F0 m pc ls st) :=
  cs_vi0 hF hM cw hv hw hK hS hn hl rest hst h8 hdg (fun r S1 H1 locs1 hp hw hS => kk r H1 locs1 hp.1 (hp.2 ▸ hw) hS)
theorem cs_vi {y : MethodName} {bytes : ByteArray} {maxL n index : Nat} {ret : Option FieldType} {rm : Room} {C : String} {b : Addr} {As : List Value} {v : Int32 × cs_St} {st : List Value} (hF : CallFix p m c cc nL s args cs_WS own)
    (hM : Met l y (cs_ws y bytes maxL ret) rm (cs_Pc D cy ad (.ref b :: As) S) (cs_Qi D cy ad (fun r S1 => r = v.1 ∧ S1 = v.2)) 0 0 (cs_A ad)) (cw : CallW R s args own C index y bytes maxL ret (cs_ws y bytes maxL ret) rm 0 0 n) (hv : ∃ cell : Cell, H[b]? = some cell ∧ cell.vm.isStatics = false ∧ s.vm.findClass C = some cell.cls)
    (hw : cs_w D cy ad S H) (hK : cs_K D cy s) (hS : va_S (cs_A ad) H0 H locs) (hn : As.length = n) (hl : ls.size = nL) (rest : List Value) (hst : st = As.reverse ++ .ref b :: rest) (h8 : (rest.map fun v => v.category).sum ≤ 8) (hdg : decode cc pc = .ok (.invokevirtual index, 3))
    (kk : ∀ (r : Int32) (S1 : cs_St) (H1 : Heap) (locs1 : List Loc), r = v.1 → S1 = v.2 → cs_w D cy ad S1 H1 → va_S (cs_A ad) H0 H1 locs1 → W p l e R s m args below meth c H1 locs1 0 0 Q (F0 m (pc + 3) ls (.int r :: rest))) : W p l e R s m args below meth c H locs 0 0 Q (F0 m pc ls st) :=
  cs_vi0 hF hM cw hv hw hK hS hn hl rest hst h8 hdg (fun r S1 H1 locs1 hp hw hS => kk r S1 H1 locs1 hp.1 hp.2 hw hS)
theorem cs_vlr {y : MethodName} {bytes : ByteArray} {maxL n index : Nat} {ret : Option FieldType} {rm : Room} {C : String} {b : Addr} {As : List Value} {v : Int64} {st : List Value} (hF : CallFix p m c cc nL s args cs_WS own)
    (hM : Met l y (cs_ws y bytes maxL ret) rm (cs_Pc D cy ad (.ref b :: As) S) (cs_Ql D cy ad (fun r S1 => r = v ∧ S1 = S)) 0 0 (cs_A ad)) (cw : CallW R s args own C index y bytes maxL ret (cs_ws y bytes maxL ret) rm 0 0 n) (hv : ∃ cell : Cell, H[b]? = some cell ∧ cell.vm.isStatics = false ∧ s.vm.findClass C = some cell.cls)
    (hw : cs_w D cy ad S H) (hK : cs_K D cy s) (hS : va_S (cs_A ad) H0 H locs) (hn : As.length = n) (hl : ls.size = nL) (rest : List Value) (hst : st = As.reverse ++ .ref b :: rest) (h8 : (rest.map fun v => v.category).sum ≤ 8) (hdg : decode cc pc = .ok (.invokevirtual index, 3))
    (kk : ∀ (r : Int64) (H1 : Heap) (locs1 : List Loc), r = v → cs_w D cy ad S H1 → va_S (cs_A ad) H0 H1 locs1 → W p l e R s m args below meth c H1 locs1 0 0 Q (F0 m (pc + 3) ls (.long r :: rest))) : W p l e R s m args below meth c H locs 0 0 Q (F0 m pc ls st) :=
  cs_vl0 hF hM cw hv hw hK hS hn hl rest hst h8 hdg (fun r S1 H1 locs1 hp hw hS => kk r H1 locs1 hp.1 (hp.2 ▸ hw) hS)
theorem cs_vl {y : MethodName} {bytes : ByteArray} {maxL n index : Nat} {ret : Option FieldType} {rm : Room} {C : String} {b : Addr} {As : List Value} {v : Int64 × cs_St} {st : List Value} (hF : CallFix p m c cc nL s args cs_WS own)
    (hM : Met l y (cs_ws y bytes maxL ret) rm (cs_Pc D cy ad (.ref b :: As) S) (cs_Ql D cy ad (fun r S1 => r = v.1 ∧ S1 = v.2)) 0 0 (cs_A ad)) (cw : CallW R s args own C index y bytes maxL ret (cs_ws y bytes maxL ret) rm 0 0 n) (hv : ∃ cell : Cell, H[b]? = some cell ∧ cell.vm.isStatics = false ∧ s.vm.findClass C = some cell.cls)
    (hw : cs_w D cy ad S H) (hK : cs_K D cy s) (hS : va_S (cs_A ad) H0 H locs) (hn : As.length = n) (hl : ls.size = nL) (rest : List Value) (hst : st = As.reverse ++ .ref b :: rest) (h8 : (rest.map fun v => v.category).sum ≤ 8) (hdg : decode cc pc = .ok (.invokevirtual index, 3))
    (kk : ∀ (r : Int64) (S1 : cs_St) (H1 : Heap) (locs1 : List Loc), r = v.1 → S1 = v.2 → cs_w D cy ad S1 H1 → va_S (cs_A ad) H0 H1 locs1 → W p l e R s m args below meth c H1 locs1 0 0 Q (F0 m (pc + 3) ls (.long r :: rest))) : W p l e R s m args below meth c H locs 0 0 Q (F0 m pc ls st) :=
  cs_vl0 hF hM cw hv hw hK hS hn hl rest hst h8 hdg (fun r S1 H1 locs1 hp hw hS => kk r S1 H1 locs1 hp.1 hp.2 hw hS)
theorem cs_vvr {y : MethodName} {bytes : ByteArray} {maxL n index : Nat} {ret : Option FieldType} {rm : Room} {C : String} {b : Addr} {As : List Value}  {st : List Value} (hF : CallFix p m c cc nL s args cs_WS own)
    (hM : Met l y (cs_ws y bytes maxL ret) rm (cs_Pc D cy ad (.ref b :: As) S) (cs_Qv D cy ad (fun S1 => S1 = S)) 0 0 (cs_A ad)) (cw : CallW R s args own C index y bytes maxL ret (cs_ws y bytes maxL ret) rm 0 0 n) (hv : ∃ cell : Cell, H[b]? = some cell ∧ cell.vm.isStatics = false ∧ s.vm.findClass C = some cell.cls)
    (hw : cs_w D cy ad S H) (hK : cs_K D cy s) (hS : va_S (cs_A ad) H0 H locs) (hn : As.length = n) (hl : ls.size = nL) (rest : List Value) (hst : st = As.reverse ++ .ref b :: rest) (h8 : (rest.map fun v => v.category).sum ≤ 8) (hdg : decode cc pc = .ok (.invokevirtual index, 3))
    (kk : ∀ (H1 : Heap) (locs1 : List Loc), cs_w D cy ad S H1 → va_S (cs_A ad) H0 H1 locs1 → W p l e R s m args below meth c H1 locs1 0 0 Q (F0 m (pc + 3) ls rest)) : W p l e R s m args below meth c H locs 0 0 Q (F0 m pc ls st) :=
  cs_vv0 hF hM cw hv hw hK hS hn hl rest hst h8 hdg (fun S1 H1 locs1 hp hw hS => kk H1 locs1 (hp ▸ hw) hS)
theorem cs_vv {y : MethodName} {bytes : ByteArray} {maxL n index : Nat} {ret : Option FieldType} {rm : Room} {C : String} {b : Addr} {As : List Value} {v : cs_St} {st : List Value} (hF : CallFix p m c cc nL s args cs_WS own)
    (hM : Met l y (cs_ws y bytes maxL ret) rm (cs_Pc D cy ad (.ref b :: As) S) (cs_Qv D cy ad (fun S1 => S1 = v)) 0 0 (cs_A ad)) (cw : CallW R s args own C index y bytes maxL ret (cs_ws y bytes maxL ret) rm 0 0 n) (hv : ∃ cell : Cell, H[b]? = some cell ∧ cell.vm.isStatics = false ∧ s.vm.findClass C = some cell.cls)
    (hw : cs_w D cy ad S H) (hK : cs_K D cy s) (hS : va_S (cs_A ad) H0 H locs) (hn : As.length = n) (hl : ls.size = nL) (rest : List Value) (hst : st = As.reverse ++ .ref b :: rest) (h8 : (rest.map fun v => v.category).sum ≤ 8) (hdg : decode cc pc = .ok (.invokevirtual index, 3))
    (kk : ∀ (S1 : cs_St) (H1 : Heap) (locs1 : List Loc), S1 = v → cs_w D cy ad S1 H1 → va_S (cs_A ad) H0 H1 locs1 → W p l e R s m args below meth c H1 locs1 0 0 Q (F0 m (pc + 3) ls rest)) : W p l e R s m args below meth c H locs 0 0 Q (F0 m pc ls st) :=
  cs_vv0 hF hM cw hv hw hK hS hn hl rest hst h8 hdg (fun S1 H1 locs1 hp hw hS => kk S1 H1 locs1 hp hw hS)
theorem cs_sir {y : MethodName} {bytes : ByteArray} {maxL n index : Nat} {ret : Option FieldType} {rm : Room} {As : List Value} {v : Int32} {st : List Value} (hF : CallFix p m c cc nL s args cs_WS own)
    (hM : Met l y (cs_ws y bytes maxL ret) rm (cs_Pc D cy ad As S) (cs_Qi D cy ad (fun r S1 => r = v ∧ S1 = S)) 0 0 (cs_A ad)) (cw : CallB R s args own index y bytes maxL ret (cs_ws y bytes maxL ret) rm 0 0 n ∧ (Cond.static y).before args s = true)
    (hw : cs_w D cy ad S H) (hK : cs_K D cy s) (hS : va_S (cs_A ad) H0 H locs) (hn : As.length = n) (hl : ls.size = nL) (rest : List Value) (hst : st = As.reverse ++ rest) (h8 : (rest.map fun v => v.category).sum ≤ 8) (hdg : decode cc pc = .ok (.invokestatic index, 3))
    (kk : ∀ (r : Int32) (H1 : Heap) (locs1 : List Loc), r = v → cs_w D cy ad S H1 → va_S (cs_A ad) H0 H1 locs1 → W p l e R s m args below meth c H1 locs1 0 0 Q (F0 m (pc + 3) ls (.int r :: rest))) : W p l e R s m args below meth c H locs 0 0 Q (F0 m pc ls st) :=
  cs_si0 hF hM cw hw hK hS hn hl rest hst h8 hdg (fun r S1 H1 locs1 hp hw hS => kk r H1 locs1 hp.1 (hp.2 ▸ hw) hS)
theorem cs_si {y : MethodName} {bytes : ByteArray} {maxL n index : Nat} {ret : Option FieldType} {rm : Room} {As : List Value} {v : Int32 × cs_St} {st : List Value} (hF : CallFix p m c cc nL s args cs_WS own)
    (hM : Met l y (cs_ws y bytes maxL ret) rm (cs_Pc D cy ad As S) (cs_Qi D cy ad (fun r S1 => r = v.1 ∧ S1 = v.2)) 0 0 (cs_A ad)) (cw : CallB R s args own index y bytes maxL ret (cs_ws y bytes maxL ret) rm 0 0 n ∧ (Cond.static y).before args s = true)
    (hw : cs_w D cy ad S H) (hK : cs_K D cy s) (hS : va_S (cs_A ad) H0 H locs) (hn : As.length = n) (hl : ls.size = nL) (rest : List Value) (hst : st = As.reverse ++ rest) (h8 : (rest.map fun v => v.category).sum ≤ 8) (hdg : decode cc pc = .ok (.invokestatic index, 3))
    (kk : ∀ (r : Int32) (S1 : cs_St) (H1 : Heap) (locs1 : List Loc), r = v.1 → S1 = v.2 → cs_w D cy ad S1 H1 → va_S (cs_A ad) H0 H1 locs1 → W p l e R s m args below meth c H1 locs1 0 0 Q (F0 m (pc + 3) ls (.int r :: rest))) : W p l e R s m args below meth c H locs 0 0 Q (F0 m pc ls st) :=
  cs_si0 hF hM cw hw hK hS hn hl rest hst h8 hdg (fun r S1 H1 locs1 hp hw hS => kk r S1 H1 locs1 hp.1 hp.2 hw hS)
theorem cs_slr {y : MethodName} {bytes : ByteArray} {maxL n index : Nat} {ret : Option FieldType} {rm : Room} {As : List Value} {v : Int64} {st : List Value} (hF : CallFix p m c cc nL s args cs_WS own)
    (hM : Met l y (cs_ws y bytes maxL ret) rm (cs_Pc D cy ad As S) (cs_Ql D cy ad (fun r S1 => r = v ∧ S1 = S)) 0 0 (cs_A ad)) (cw : CallB R s args own index y bytes maxL ret (cs_ws y bytes maxL ret) rm 0 0 n ∧ (Cond.static y).before args s = true)
    (hw : cs_w D cy ad S H) (hK : cs_K D cy s) (hS : va_S (cs_A ad) H0 H locs) (hn : As.length = n) (hl : ls.size = nL) (rest : List Value) (hst : st = As.reverse ++ rest) (h8 : (rest.map fun v => v.category).sum ≤ 8) (hdg : decode cc pc = .ok (.invokestatic index, 3))
    (kk : ∀ (r : Int64) (H1 : Heap) (locs1 : List Loc), r = v → cs_w D cy ad S H1 → va_S (cs_A ad) H0 H1 locs1 → W p l e R s m args below meth c H1 locs1 0 0 Q (F0 m (pc + 3) ls (.long r :: rest))) : W p l e R s m args below meth c H locs 0 0 Q (F0 m pc ls st) :=
  cs_sl0 hF hM cw hw hK hS hn hl rest hst h8 hdg (fun r S1 H1 locs1 hp hw hS => kk r H1 locs1 hp.1 (hp.2 ▸ hw) hS)
theorem cs_sl {y : MethodName} {bytes : ByteArray} {maxL n index : Nat} {ret : Option FieldType} {rm : Room} {As : List Value} {v : Int64 × cs_St} {st : List Value} (hF : CallFix p m c cc nL s args cs_WS own)
    (hM : Met l y (cs_ws y bytes maxL ret) rm (cs_Pc D cy ad As S) (cs_Ql D cy ad (fun r S1 => r = v.1 ∧ S1 = v.2)) 0 0 (cs_A ad)) (cw : CallB R s args own index y bytes maxL ret (cs_ws y bytes maxL ret) rm 0 0 n ∧ (Cond.static y).before args s = true)
    (hw : cs_w D cy ad S H) (hK : cs_K D cy s) (hS : va_S (cs_A ad) H0 H locs) (hn : As.length = n) (hl : ls.size = nL) (rest : List Value) (hst : st = As.reverse ++ rest) (h8 : (rest.map fun v => v.category).sum ≤ 8) (hdg : decode cc pc = .ok (.invokestatic index, 3))
    (kk : ∀ (r : Int64) (S1 : cs_St) (H1 : Heap) (locs1 : List Loc), r = v.1 → S1 = v.2 → cs_w D cy ad S1 H1 → va_S (cs_A ad) H0 H1 locs1 → W p l e R s m args below meth c H1 locs1 0 0 Q (F0 m (pc + 3) ls (.long r :: rest))) : W p l e R s m args below meth c H locs 0 0 Q (F0 m pc ls st) :=
  cs_sl0 hF hM cw hw hK hS hn hl rest hst h8 hdg (fun r S1 H1 locs1 hp hw hS => kk r S1 H1 locs1 hp.1 hp.2 hw hS)
theorem cs_svr {y : MethodName} {bytes : ByteArray} {maxL n index : Nat} {ret : Option FieldType} {rm : Room} {As : List Value}  {st : List Value} (hF : CallFix p m c cc nL s args cs_WS own)
    (hM : Met l y (cs_ws y bytes maxL ret) rm (cs_Pc D cy ad As S) (cs_Qv D cy ad (fun S1 => S1 = S)) 0 0 (cs_A ad)) (cw : CallB R s args own index y bytes maxL ret (cs_ws y bytes maxL ret) rm 0 0 n ∧ (Cond.static y).before args s = true)
    (hw : cs_w D cy ad S H) (hK : cs_K D cy s) (hS : va_S (cs_A ad) H0 H locs) (hn : As.length = n) (hl : ls.size = nL) (rest : List Value) (hst : st = As.reverse ++ rest) (h8 : (rest.map fun v => v.category).sum ≤ 8) (hdg : decode cc pc = .ok (.invokestatic index, 3))
    (kk : ∀ (H1 : Heap) (locs1 : List Loc), cs_w D cy ad S H1 → va_S (cs_A ad) H0 H1 locs1 → W p l e R s m args below meth c H1 locs1 0 0 Q (F0 m (pc + 3) ls rest)) : W p l e R s m args below meth c H locs 0 0 Q (F0 m pc ls st) :=
  cs_sv0 hF hM cw hw hK hS hn hl rest hst h8 hdg (fun S1 H1 locs1 hp hw hS => kk H1 locs1 (hp ▸ hw) hS)
theorem cs_sv {y : MethodName} {bytes : ByteArray} {maxL n index : Nat} {ret : Option FieldType} {rm : Room} {As : List Value} {v : cs_St} {st : List Value} (hF : CallFix p m c cc nL s args cs_WS own)
    (hM : Met l y (cs_ws y bytes maxL ret) rm (cs_Pc D cy ad As S) (cs_Qv D cy ad (fun S1 => S1 = v)) 0 0 (cs_A ad)) (cw : CallB R s args own index y bytes maxL ret (cs_ws y bytes maxL ret) rm 0 0 n ∧ (Cond.static y).before args s = true)
    (hw : cs_w D cy ad S H) (hK : cs_K D cy s) (hS : va_S (cs_A ad) H0 H locs) (hn : As.length = n) (hl : ls.size = nL) (rest : List Value) (hst : st = As.reverse ++ rest) (h8 : (rest.map fun v => v.category).sum ≤ 8) (hdg : decode cc pc = .ok (.invokestatic index, 3))
    (kk : ∀ (S1 : cs_St) (H1 : Heap) (locs1 : List Loc), S1 = v → cs_w D cy ad S1 H1 → va_S (cs_A ad) H0 H1 locs1 → W p l e R s m args below meth c H1 locs1 0 0 Q (F0 m (pc + 3) ls rest)) : W p l e R s m args below meth c H locs 0 0 Q (F0 m pc ls st) :=
  cs_sv0 hF hM cw hw hK hS hn hl rest hst h8 hdg (fun S1 H1 locs1 hp hw hS => kk S1 H1 locs1 hp hw hS)
theorem cs_iret {post : Int32 → cs_St → Prop} {v : Int32} (hF : CallFix p m c cc nL s args cs_WS own) (hr : meth.sig.returnType = some .int) (hlk : meth.locks = false) (hw : cs_w D cy ad S H) (hK : cs_K D cy s) (hS : va_S (cs_A ad) s.heap H locs) (hdg : decode cc pc = .ok (.ireturn, 1)) (hp : post v S) : W p l e R s m args below meth c H locs 0 0 (MQ below (cs_Qi D cy ad post) args s 0 0 (cs_A ad)) (F0 m pc ls [.int v]) :=
  W.iret (v := v) hF.1 hF.2.1 hr (fun t ht hW => ⟨⟨v, S, rfl, hp, by rw [ht]; exact hw, cs_K.moved hW hK⟩, hS.F ht⟩) hS.2.2 hdg hlk
theorem cs_zret {post : Int32 → cs_St → Prop} {v : Int32} (hF : CallFix p m c cc nL s args cs_WS own) (hr : meth.sig.returnType = some .boolean) (hlk : meth.locks = false) (hw : cs_w D cy ad S H) (hK : cs_K D cy s) (hS : va_S (cs_A ad) s.heap H locs) (hdg : decode cc pc = .ok (.ireturn, 1)) (hp : post v S) (hn : narrow .boolean (.int v) = .int v := by rfl) : W p l e R s m args below meth c H locs 0 0 (MQ below (cs_Qi D cy ad post) args s 0 0 (cs_A ad)) (F0 m pc ls [.int v]) :=
  W.zret (v := v) hF.1 hF.2.1 hr hn (fun t ht hW => ⟨⟨v, S, rfl, hp, by rw [ht]; exact hw, cs_K.moved hW hK⟩, hS.F ht⟩) hS.2.2 hdg hlk
theorem cs_lret {post : Int64 → cs_St → Prop} {v : Int64} (hF : CallFix p m c cc nL s args cs_WS own) (hr : meth.sig.returnType = some .long) (hlk : meth.locks = false) (hw : cs_w D cy ad S H) (hK : cs_K D cy s) (hS : va_S (cs_A ad) s.heap H locs) (hdg : decode cc pc = .ok (.lreturn, 1)) (hp : post v S) : W p l e R s m args below meth c H locs 0 0 (MQ below (cs_Ql D cy ad post) args s 0 0 (cs_A ad)) (F0 m pc ls [.long v]) :=
  W.lret (v := v) hF.1 hF.2.1 hr (fun t ht hW => ⟨⟨v, S, rfl, hp, by rw [ht]; exact hw, cs_K.moved hW hK⟩, hS.F ht⟩) hS.2.2 hdg hlk
theorem cs_vret {post : cs_St → Prop} (hF : CallFix p m c cc nL s args cs_WS own) (hr : meth.sig.returnType = none) (hlk : meth.locks = false) (hw : cs_w D cy ad S H) (hK : cs_K D cy s) (hS : va_S (cs_A ad) s.heap H locs) (hdg : decode cc pc = .ok (.return_, 1)) (hp : post S) : W p l e R s m args below meth c H locs 0 0 (MQ below (cs_Qv D cy ad post) args s 0 0 (cs_A ad)) (F0 m pc ls []) :=
  W.vret hF.1 hF.2.1 hr (fun t ht hW => ⟨⟨S, rfl, hp, by rw [ht]; exact hw, cs_K.moved hW hK⟩, hS.F ht⟩) hS.2.2 hdg hlk
theorem cs_get {C : String} {T : u_T} {N ci index : Nat} (hF : CallFix p m c cc nL s args cs_WS own) (hin : ∀ w ∈ u_ws C T N, w ∈ cs_WS) (hw : cs_w D cy ad S H) (hK : cs_K D cy s) (q0 : Nat) {a : Nat} {fs : List Value} (he : (cs_W cy ad S)[q0]? = some (a, .inr (ci, fs))) (hc : cs_cl[ci]? = some (C, T, N)) (k : Nat) (hk : k < N) (hlink : Cond.fieldLink own index (T k).1 (T k).2.1 (T k).2.2.1 ∈ cs_WS) {v : Value} (hv : fs[k]? = some v) (hdg : decode cc pc = .ok (.getfield index, 3))
    (kk : W p l e R s m args below meth c H locs 0 0 Q (F0 m (pc + 3) ls (v :: rest))) : W p l e R s m args below meth c H locs 0 0 Q (F0 m pc ls (.ref a :: rest)) :=
  va_get (D := D) (C := C) (T := T) (N := N) hF.1 hF.2.1 hF.2.2.2.2 hin hF.2.2.2.1 hK.1 hw.2.1 q0 he hc k hk (hF.2.2.2.2 _ hlink) (fun _ h => h) hv hdg kk
theorem cs_put {C : String} {T : u_T} {N ci index : Nat} (hF : CallFix p m c cc nL s args cs_WS own) (hin : ∀ w ∈ u_ws C T N, w ∈ cs_WS) (ty0 : Nat → FieldType) (hty : ∀ k, k < N → parseFieldDescriptor (T k).2.2.1 = some (ty0 k)) (hnm : ∀ a, a < N → ∀ b, b < N → a ≠ b → (T a).2.1 ≠ (T b).2.1) (hw : cs_w D cy ad S H) (hK : cs_K D cy s) (hS : va_S (cs_A ad) H0 H locs) (q0 : Nat) {a : Nat} {fs : List Value} (he : (cs_W cy ad S)[q0]? = some (a, .inr (ci, fs))) (hc : cs_cl[ci]? = some (C, T, N)) (k : Nat) (hk : k < N) (hlink : Cond.fieldLink own index (T k).1 (T k).2.1 (T k).2.2.1 ∈ cs_WS) (hfin : (T k).2.2.2 = false) {x : Int32} (hd : parseFieldDescriptor (T k).2.2.1 = some .int) (hl : k < fs.length)
    (S1 : cs_St) (hset : (cs_W cy ad S).set q0 (a, .inr (ci, fs.set k (.int x))) = cs_W cy ad S1) (hok : cs_ok S1) (hdg : decode cc pc = .ok (.putfield index, 3))
    (kk : ∀ (H1 : Heap) (locs1 : List Loc), cs_w D cy ad S1 H1 → va_S (cs_A ad) H0 H1 locs1 → W p l e R s m args below meth c H1 locs1 0 0 Q (F0 m (pc + 3) ls rest)) : W p l e R s m args below meth c H locs 0 0 Q (F0 m pc ls (.int x :: .ref a :: rest)) :=
  va_put (D := D) (C := C) (T := T) (N := N) hF.1 hF.2.1 hF.2.2.2.2 hin ty0 hty hnm hF.2.2.2.1 hK.1 hw.2.1 hw.2.2 hS q0 he hc k hk (hF.2.2.2.2 _ hlink) (fun _ h => h) hfin hd rfl rfl hl hdg (fun H locs hP hD hS => kk H locs ⟨hok, hset ▸ hP, hset ▸ hD⟩ hS)
theorem cs_upd3 {f : Nat → Int32} {k : Nat} {x : Int32} (h : ∀ k, f k ≤ 3) (hx : x ≤ 3) : ∀ i, upd f k x i ≤ 3 := by
  intro i
  show (if i = k then x else f i) ≤ 3
  by_cases e : i = k
  · rw [if_pos e]; exact hx
  · rw [if_neg e]; exact h i
theorem cs_cpy3 {f : Nat → Int32} {a b n : Nat} (h : ∀ k, f k ≤ 3) : ∀ i, va_cpy f f a b n i ≤ 3 := by
  intro i
  show (if b ≤ i ∧ i < b + n then f (a + (i - b)) else f i) ≤ 3
  by_cases e : b ≤ i ∧ i < b + n
  · rw [if_pos e]; exact h _
  · rw [if_neg e]; exact h i
theorem cs_len (hF : CallFix p m c cc nL s args cs_WS own) (hw : cs_w D cy ad S H) (hK : cs_K D cy s) (j : Nat) (hj : j < 19) (hdg : decode cc pc = .ok (.arraylength, 1))
    (kk : W p l e R s m args below meth c H locs 0 0 Q (F0 m (pc + 1) ls (.int (nI (cs_cap j)) :: rest))) : W p l e R s m args below meth c H locs 0 0 Q (F0 m pc ls (.ref (ad (7 + 2 * j)) :: rest)) :=
  va_alen (D := D) (tys := [(cy, .int)]) hF.1 hF.2.1 hK.1 hw.2.1 (7 + 2 * j) 0 (cs_gA cy ad S j hj) rfl rfl hdg kk
theorem cs_ald (hF : CallFix p m c cc nL s args cs_WS own) (hw : cs_w D cy ad S H) (hK : cs_K D cy s) (j : Nat) (hj : j < 19) {i : Int32} (h1 : ¬ i < 0) (h2 : ¬ nI (cs_cap j) ≤ i) (hdg : decode cc pc = .ok (.iaload, 1))
    (kk : W p l e R s m args below meth c H locs 0 0 Q (F0 m (pc + 1) ls (.int ((S.1 j).1 i.toNatClampNeg) :: rest))) : W p l e R s m args below meth c H locs 0 0 Q (F0 m pc ls (.int i :: .ref (ad (7 + 2 * j)) :: rest)) :=
  va_iald (D := D) (tys := [(cy, .int)]) hF.1 hF.2.1 hK.1 hw.2.1 (7 + 2 * j) 0 (cs_gA cy ad S j hj) rfl (cs_in (Nat.lt_of_le_of_lt (cs_cap_le j) (by decide)) h1 h2) hdg kk
theorem cs_ast (hF : CallFix p m c cc nL s args cs_WS own) (hw : cs_w D cy ad S H) (hK : cs_K D cy s) (hS : va_S (cs_A ad) H0 H locs) (j : Nat) (hj : j < 19) {i x : Int32} (h1 : ¬ i < 0) (h2 : ¬ nI (cs_cap j) ≤ i) (h3 : j = 13 → x ≤ 3) (hdg : decode cc pc = .ok (.iastore, 1))
    (kk : ∀ (S1 : cs_St) (H1 : Heap) (locs1 : List Loc), S1 = cs_sR S j (upd (S.1 j).1 i.toNatClampNeg x, (S.1 j).2) → cs_w D cy ad S1 H1 → va_S (cs_A ad) H0 H1 locs1 → W p l e R s m args below meth c H1 locs1 0 0 Q (F0 m (pc + 1) ls rest)) : W p l e R s m args below meth c H locs 0 0 Q (F0 m pc ls (.int x :: .int i :: .ref (ad (7 + 2 * j)) :: rest)) :=
  va_iast (D := D) (tys := [(cy, .int)]) hF.1 hF.2.1 hK.1 hw.2.1 hw.2.2 hS (7 + 2 * j) 0 (cs_gA cy ad S j hj) rfl (cs_in (Nat.lt_of_le_of_lt (cs_cap_le j) (by decide)) h1 h2) hdg (fun H locs hP hD hS => kk _ H locs rfl ⟨cs_sR_ok hw.1 (hw.1.1 j hj) (fun e => cs_upd3 (e ▸ hw.1.2.1) (h3 e)), cs_setA cy ad S _ j hj ▸ hP, cs_setA cy ad S _ j hj ▸ hD⟩ hS)
theorem cs_putU (hF : CallFix p m c cc nL s args cs_WS own) (hw : cs_w D cy ad S H) (hK : cs_K D cy s) (hS : va_S (cs_A ad) H0 H locs) (j : Nat) (hj : j < 19) {index : Nat} (hlink : Cond.fieldLink own index (TX3 1).1 (TX3 1).2.1 (TX3 1).2.2.1 ∈ cs_WS) {x : Int32} (u : Nat) (hx : x = nI u) (hu : u ≤ cs_cap j) (hdg : decode cc pc = .ok (.putfield index, 3))
    (kk : ∀ (S1 : cs_St) (H1 : Heap) (locs1 : List Loc), S1 = cs_sR S j ((S.1 j).1, u) → cs_w D cy ad S1 H1 → va_S (cs_A ad) H0 H1 locs1 → W p l e R s m args below meth c H1 locs1 0 0 Q (F0 m (pc + 3) ls rest)) : W p l e R s m args below meth c H locs 0 0 Q (F0 m pc ls (.int x :: .ref (ad (6 + 2 * j)) :: rest)) := by
  subst hx
  exact cs_put (C := RX3) (T := TX3) (N := 2) hF in_X3 tyX3 tyX3_ok nmX3 hw hK hS (6 + 2 * j) (cs_gO cy ad S j hj) rfl 1 (by decide) hlink rfl (by decide +kernel) (Nat.le_of_ble_eq_true rfl) (cs_sR S j ((S.1 j).1, u)) (cs_setO cy ad S u j hj) (cs_sR_ok hw.1 hu (fun e => e ▸ hw.1.2.1)) hdg (fun H1 locs1 hw hS => kk _ H1 locs1 rfl hw hS)
theorem cs_cpy (hF : CallFix p m c cc nL s args cs_WS own) (hml : c.maxLocals = ls.size) (hw : cs_w D cy ad S H) (hK : cs_K D cy s) (hS : va_S (cs_A ad) H0 H locs) (j : Nat) (hj : j < 19) {index : Nat} (hlink : Cond.methodLink own index arraycopyName ∈ cs_WS) (h1 : Cond.native arraycopyName ∈ cs_WS) (h2 : Cond.static arraycopyName ∈ cs_WS) (h3 : Cond.initialized "java/lang/System" ∈ cs_WS)
    {sp dp n : Int32} (g1 : ¬ sp < 0) (g2 : ¬ dp < 0) (g3 : ¬ n < 0) (g4 : sp.toNatClampNeg + n.toNatClampNeg ≤ cs_cap j) (g5 : dp.toNatClampNeg + n.toNatClampNeg ≤ cs_cap j) (hfr : 1 ≤ R.frames) (hlo : (rest.map fun v => v.category).sum + (nativeFrameWords "java/lang/System" "arraycopy" 5 + 11) ≤ R.locals) (hdg : decode cc pc = .ok (.invokestatic index, 3))
    (kk : ∀ (S1 : cs_St) (H1 : Heap) (locs1 : List Loc), S1 = cs_sR S j (va_cpy (S.1 j).1 (S.1 j).1 sp.toNatClampNeg dp.toNatClampNeg n.toNatClampNeg, (S.1 j).2) → cs_w D cy ad S1 H1 → va_S (cs_A ad) H0 H1 locs1 → W p l e R s m args below meth c H1 locs1 0 0 Q (F0 m (pc + 3) ls rest)) : W p l e R s m args below meth c H locs 0 0 Q (F0 m pc ls (.int n :: .int dp :: .ref (ad (7 + 2 * j)) :: .int sp :: .ref (ad (7 + 2 * j)) :: rest)) :=
  va_copyi (D := D) (tys := [(cy, .int)]) (ty := .int) hF.1 hF.2.1 hml hF.2.2.2.1 (hF.2.2.2.2 _ hlink) (hF.2.2.2.2 _ h1) (hF.2.2.2.2 _ h2) (hF.2.2.2.2 _ h3) hK.1 hw.2.1 hw.2.2 hS (7 + 2 * j) (7 + 2 * j) 0 0 (cs_gA cy ad S j hj) (cs_gA cy ad S j hj) rfl rfl rfl g1 g2 g3 g4 g5 (fun _ _ => rfl) hfr hlo hdg (fun H locs hP hD hS => kk _ H locs rfl ⟨cs_sR_ok hw.1 (hw.1.1 j hj) (fun e k => cs_cpy3 (e ▸ hw.1.2.1) k), cs_setA cy ad S _ j hj ▸ hP, cs_setA cy ad S _ j hj ▸ hD⟩ hS)
theorem cs_getN {C host : String} {T : u_T} {N ci index : Nat} (hF : CallFix p m c cc nL s args cs_WS own) (hin : ∀ w ∈ u_ws C T N, w ∈ cs_WS) (hw : cs_w D cy ad S H) (hK : cs_K D cy s) (q0 : Nat) {a : Nat} {fs : List Value} (he : (cs_W cy ad S)[q0]? = some (a, .inr (ci, fs))) (hc : cs_cl[ci]? = some (C, T, N)) (k : Nat) (hk : k < N) (hlink : (own, index, (T k).1, (T k).2.1, (T k).2.2.1, host) ∈ cs_nw) {v : Value} (hv : fs[k]? = some v) (hdg : decode cc pc = .ok (.getfield index, 3))
    (kk : W p l e R s m args below meth c H locs 0 0 Q (F0 m (pc + 3) ls (v :: rest))) : W p l e R s m args below meth c H locs 0 0 Q (F0 m pc ls (.ref a :: rest)) :=
  va_getN (D := D) (C := C) (T := T) (N := N) (host := host) hF.1 hF.2.1 hF.2.2.2.2 hin hF.2.2.2.1 hK.1 hw.2.1 q0 he hc k hk (va_Nw.use rfl (hK.2 _ hlink)) (fun _ h => h) hv hdg kk
end CSW

def cs_N : Nat := 4294967296
theorem cs_add1 {v : Int32} (h : v.toInt < 2147483647) : (v + 1).toInt = v.toInt + 1 := by
  rw [Int32.toInt_add]
  show Int.bmod (v.toInt + 1) (2 ^ 32) = v.toInt + 1
  have h0 := Int32.le_toInt v
  rw [Int.bmod_eq_of_le] <;> omega
theorem cs_sub1 {v : Int32} (h : -2147483648 < v.toInt) : (v + (-1)).toInt = v.toInt - 1 := by
  rw [Int32.toInt_add]
  show Int.bmod (v.toInt + -1) (2 ^ 32) = v.toInt - 1
  have h0 := Int32.toInt_lt v
  rw [Int.bmod_eq_of_le] <;> omega
theorem cs_up2 {v t : Int32} {n : Nat} (h : 2147483647 - v.toInt < ((n + 1 : Nat) : Int)) (c : v < t) : 2147483647 - (v + 1).toInt < (n : Int) ∧ 0 < n := by
  have h1 := Int32.lt_iff_toInt_lt.mp c
  have h2 := Int32.toInt_lt t
  rw [cs_add1 (by omega)]
  omega
theorem cs_up {v t : Int32} {n : Nat} (h : 2147483647 - v.toInt < ((n + 1 : Nat) : Int)) (c : ¬ t ≤ v) : 2147483647 - (v + 1).toInt < (n : Int) ∧ 0 < n := cs_up2 h (Int32.not_le.mp c)
theorem cs_up0 (v : Int32) : 2147483647 - v.toInt < ((cs_N : Nat) : Int) ∧ 0 < cs_N := by
  have h := Int32.le_toInt v
  have h2 : ((cs_N : Nat) : Int) = 4294967296 := rfl
  exact ⟨by omega, by decide⟩
theorem cs_dn {v : Int32} {n : Nat} (h : v.toInt + 1 < ((n + 1 : Nat) : Int)) (c : ¬ v < 0) : (v + (-1)).toInt + 1 < (n : Int) ∧ 0 < n := by
  have h1 : ¬ v.toInt < 0 := fun z => c (Int32.lt_iff_toInt_lt.mpr z)
  rw [cs_sub1 (by omega)]
  omega
theorem cs_dn0 (v : Int32) : v.toInt + 1 < ((cs_N : Nat) : Int) ∧ 0 < cs_N := by
  have h := Int32.toInt_lt v
  have h2 : ((cs_N : Nat) : Int) = 4294967296 := rfl
  exact ⟨by omega, by decide⟩
theorem cs_sR_1 {S : cs_St} {i : Nat} {r : cs_R} : (cs_sR S i r).1 i = r := if_pos rfl
theorem cs_sR_2 {S : cs_St} {i k : Nat} {r : cs_R} (h : k ≠ i) : (cs_sR S i r).1 k = S.1 k := if_neg h
theorem cs_ltU {j u : Nat} (hu : u ≤ cs_cap j) (h : ¬ nI (cs_cap j) ≤ nI u) : u + 1 ≤ cs_cap j := by
  have hc := cs_cap_le j
  rw [nI_leI (by omega) (by omega)] at h
  omega
theorem cs_opn {j u : Nat} {a w : Int32} (hu : u ≤ cs_cap j) (c1 : ¬ a < 0) (c2 : ¬ nI u < a) (c3 : ¬ w ≤ 0) (c4 : ¬ nI (cs_cap j) - nI u < w) :
    ¬ a + w < 0 ∧ ¬ nI u - a < 0 ∧ a.toNatClampNeg + (nI u - a).toNatClampNeg ≤ cs_cap j ∧ (a + w).toNatClampNeg + (nI u - a).toNatClampNeg ≤ cs_cap j ∧ nI u + w = nI (u + w.toNatClampNeg) ∧ u + w.toNatClampNeg ≤ cs_cap j := by
  have hc := cs_cap_le j
  obtain ⟨p, hp, rfl⟩ := nI_of c1
  have c3' : ¬ w < 0 := fun z => c3 (Int32.le_of_lt z)
  obtain ⟨n, hn, rfl⟩ := nI_of c3'
  rw [nI_ltI (by omega) hp] at c2
  rw [pk_sub hu, nI_ltI (by omega) hn] at c4
  have h1 : p ≤ u := by omega
  have h2 : n ≤ cs_cap j - u := by omega
  rw [pk_sub h1, nI_add, nI_add, nI_clamp (by omega), nI_clamp (by omega), nI_clamp (by omega), nI_clamp (by omega)]
  exact ⟨nI_pos (by omega), nI_pos (by omega), by omega, by omega, rfl, by omega⟩
theorem cs_ctt {j u : Nat} {a b : Int32} (hu : u ≤ cs_cap j) (c1 : ¬ a < 0) (c2 : ¬ b ≤ a) (c3 : ¬ nI u < b) :
    ¬ b < 0 ∧ ¬ nI u - b < 0 ∧ b.toNatClampNeg + (nI u - b).toNatClampNeg ≤ cs_cap j ∧ a.toNatClampNeg + (nI u - b).toNatClampNeg ≤ cs_cap j ∧ nI u - (b - a) = nI (u - (b - a).toNatClampNeg) ∧ u - (b - a).toNatClampNeg ≤ cs_cap j := by
  have hc := cs_cap_le j
  obtain ⟨p, hp, rfl⟩ := nI_of c1
  have c4 : ¬ b < 0 := fun z => c2 (Int32.le_of_lt (Int32.lt_of_lt_of_le z (nI_pos' hp)))
  obtain ⟨n, hn, rfl⟩ := nI_of c4
  rw [nI_leI hn hp] at c2
  rw [nI_ltI (by omega) hn] at c3
  have h1 : n ≤ u := by omega
  have h2 : p ≤ n := by omega
  rw [pk_sub h1, pk_sub h2, nI_clamp hn, nI_clamp (by omega), nI_clamp (by omega), nI_clamp (by omega), pk_sub (by omega)]
  exact ⟨nI_pos hn, nI_pos (by omega), by omega, by omega, rfl, by omega⟩
theorem cs_nn {v t : Int32} (h : ¬ v < 0) (c : ¬ t ≤ v) : ¬ v + 1 < 0 := by
  have h1 : ¬ v.toInt < 0 := fun z => h (Int32.lt_iff_toInt_lt.mpr z)
  have h2 := Int32.lt_iff_toInt_lt.mp (Int32.not_le.mp c)
  have h3 := Int32.toInt_lt t
  intro z
  have h4 := Int32.lt_iff_toInt_lt.mp z
  rw [cs_add1 (by omega), show (0 : Int32).toInt = 0 from rfl] at h4
  omega
theorem cs_up3 {v t : Int32} {n : Nat} (h : 2147483647 - v.toInt < ((n + 1 : Nat) : Int)) (c : ¬ t < v) (g : t ≤ 3) : 2147483647 - (v + 1).toInt < (n : Int) ∧ 0 < n := by
  have h1 := Int32.le_iff_toInt_le.mp (Int32.not_lt.mp c)
  have h2 := Int32.le_iff_toInt_le.mp g
  have h3 : (3 : Int32).toInt = 3 := rfl
  rw [cs_add1 (by omega)]
  omega
theorem cs_bl {r : Int32} (h : r = 0 ∨ r = 1) : narrow .boolean (.int r) = .int r := by
  rcases h with rfl | rfl <;> rfl
theorem cs_up5 {v t : Int32} {n : Nat} (h : 2147483647 - v.toInt < ((n + 1 : Nat) : Int)) (c : ¬ t < v) (g : t ≤ 513) : 2147483647 - (v + 1).toInt < (n : Int) ∧ 0 < n := by
  have h1 := Int32.le_iff_toInt_le.mp (Int32.not_lt.mp c)
  have h2 := Int32.le_iff_toInt_le.mp g
  have h3 : (513 : Int32).toInt = 513 := rfl
  rw [cs_add1 (by omega)]
  omega
theorem cs_le5 {S : cs_St} (h : cs_ok S) (j : Nat) (hj : j < 19) : nI (S.1 j).2 ≤ 513 := by
  have h1 := h.1 j hj
  have h2 := cs_cap_le j
  show nI (S.1 j).2 ≤ nI 513
  exact nI_le (by omega) (by decide)
theorem cs_at13' {S : cs_St} (h : cs_ok S) {x : Int32} : (if x < 0 then (0 : Int32) else if nI (cs_cap 13) ≤ x then 0 else (S.1 13).1 x.toNatClampNeg) ≤ 3 := by
  split
  · decide
  · split
    · decide
    · exact h.2.1 _
end
section
def m_X3_length (S : cs_St) (j : Nat) : Int32 := (nI (S.1 j).2)
set_option maxHeartbeats 4000000 in
set_option maxRecDepth 100000 in
theorem c_X3_length (l : Launch) (D : va_G) (cy : ClassId) (ad : Nat → Nat) (S : cs_St) (j : Nat) (hj : j < 19) : Met l yX3_length (cs_ws yX3_length cX3_length 1 (some .int)) (cs_rm 0 0) (cs_Pc D cy ad [.ref (ad (6 + 2 * j))] S) (cs_Qi D cy ad (fun r S1 => r = m_X3_length S j ∧ S1 = S)) 0 0 (cs_A ad) := by
  refine cs_of RX3 (by decide) rfl (Nat.le_of_ble_eq_true rfl) ?_
  intro p e s m below meth c hF hr hlk hw hK ls hl
  obtain ⟨hx, hb, hml, hown, hts⟩ := id hF
  have hS : va_S (cs_A ad) s.heap s.heap [] := va_S.rf
  have hl : lv_has ls 1 [(0, .ref (ad (6 + 2 * j)))] := hl
  have hok := hw.1.1 j hj
  generalize hRes : m_X3_length S j = Res
  unfold m_X3_length at hRes
  refine lv_aload_n hx hb dX3_length_0 rfl (lv_at hl 0 rfl) ?_
  refine cs_get (C := RX3) (T := TX3) (N := 2) hF in_X3 hw hK (6 + 2 * j) (cs_gO cy ad S j hj) rfl 1 (by decide) q_16 rfl dX3_length_1 ?_
  exact cs_iret hF hr hlk hw hK hS dX3_length_4 ⟨hRes, rfl⟩
theorem kk_X3_length : yX3_length.cls = RX3 ∧ yX3_length.cls ≠ "java/lang/invoke/MethodHandle" ∧ yX3_length.cls ≠ "java/lang/invoke/VarHandle" ∧ (parseMethodDescriptor yX3_length.desc).map (fun d => d.parameters.length) = some 0 := by decide +kernel
def m_X3_at (S : cs_St) (j : Nat) (a1 : Int32) : Int32 := (if a1 < 0 then 0 else (if (nI (cs_cap j)) ≤ a1 then 0 else ((S.1 j).1 a1.toNatClampNeg)))
set_option maxHeartbeats 4000000 in
set_option maxRecDepth 100000 in
theorem c_X3_at (l : Launch) (D : va_G) (cy : ClassId) (ad : Nat → Nat) (S : cs_St) (j : Nat) (a1 : Int32) (hj : j < 19) : Met l yX3_at (cs_ws yX3_at cX3_at 2 (some .int)) (cs_rm 0 0) (cs_Pc D cy ad [.ref (ad (6 + 2 * j)), .int a1] S) (cs_Qi D cy ad (fun r S1 => r = m_X3_at S j a1 ∧ S1 = S)) 0 0 (cs_A ad) := by
  refine cs_of RX3 (by decide) rfl (Nat.le_of_ble_eq_true rfl) ?_
  intro p e s m below meth c hF hr hlk hw hK ls hl
  obtain ⟨hx, hb, hml, hown, hts⟩ := id hF
  have hS : va_S (cs_A ad) s.heap s.heap [] := va_S.rf
  have hl : lv_has ls 2 [(0, .ref (ad (6 + 2 * j))), (1, .int a1)] := hl
  have hok := hw.1.1 j hj
  generalize hRes : m_X3_at S j a1 = Res
  unfold m_X3_at at hRes
  refine lv_iload_n hx hb dX3_at_0 rfl (lv_at hl 1 rfl) ?_
  refine lv_if_lt (tgt := 22) hx hb dX3_at_1 (by decide) (fun c_1 => ?_) (fun c_1 => ?_)
  · replace hRes := cs_T c_1 hRes
    refine lv_iconst (v := 0) hx hb dX3_at_22 (by decide) ?_
    exact cs_iret hF hr hlk hw hK hS dX3_at_23 ⟨hRes, rfl⟩
  · replace hRes := cs_F c_1 hRes
    refine lv_iload_n hx hb dX3_at_4 rfl (lv_at hl 1 rfl) ?_
    refine lv_aload_n hx hb dX3_at_5 rfl (lv_at hl 0 rfl) ?_
    refine cs_get (C := RX3) (T := TX3) (N := 2) hF in_X3 hw hK (6 + 2 * j) (cs_gO cy ad S j hj) rfl 0 (by decide) q_5 rfl dX3_at_6 ?_
    refine cs_len hF hw hK j hj dX3_at_9 ?_
    refine lv_icmp_ge (tgt := 22) hx hb dX3_at_10 (by decide) (fun c_2 => ?_) (fun c_2 => ?_)
    · replace hRes := cs_T c_2 hRes
      refine lv_iconst (v := 0) hx hb dX3_at_22 (by decide) ?_
      exact cs_iret hF hr hlk hw hK hS dX3_at_23 ⟨hRes, rfl⟩
    · replace hRes := cs_F c_2 hRes
      refine lv_aload_n hx hb dX3_at_13 rfl (lv_at hl 0 rfl) ?_
      refine cs_get (C := RX3) (T := TX3) (N := 2) hF in_X3 hw hK (6 + 2 * j) (cs_gO cy ad S j hj) rfl 0 (by decide) q_5 rfl dX3_at_14 ?_
      refine lv_iload_n hx hb dX3_at_17 rfl (lv_at hl 1 rfl) ?_
      refine cs_ald hF hw hK j hj c_1 c_2 dX3_at_18 ?_
      refine lv_goto (tgt := 23) hx hb dX3_at_19 (by decide) ?_
      exact cs_iret hF hr hlk hw hK hS dX3_at_23 ⟨hRes, rfl⟩
theorem kk_X3_at : yX3_at.cls = RX3 ∧ yX3_at.cls ≠ "java/lang/invoke/MethodHandle" ∧ yX3_at.cls ≠ "java/lang/invoke/VarHandle" ∧ (parseMethodDescriptor yX3_at.desc).map (fun d => d.parameters.length) = some 1 := by decide +kernel
def m_X3_write (S : cs_St) (j : Nat) (a1 : Int32) (a2 : Int32) : cs_St := (if a1 < 0 then S else (if (nI (cs_cap j)) ≤ a1 then S else cs_let (cs_sR S j (upd (S.1 j).1 a1.toNatClampNeg a2, (S.1 j).2)) (fun S_3 => S_3)))
set_option maxHeartbeats 4000000 in
set_option maxRecDepth 100000 in
theorem c_X3_write (l : Launch) (D : va_G) (cy : ClassId) (ad : Nat → Nat) (S : cs_St) (j : Nat) (a1 : Int32) (a2 : Int32) (hj : j < 19) (hx13 : j = 13 → a2 ≤ 3) : Met l yX3_write (cs_ws yX3_write cX3_write 3 none) (cs_rm 0 0) (cs_Pc D cy ad [.ref (ad (6 + 2 * j)), .int a1, .int a2] S) (cs_Qv D cy ad (fun S1 => S1 = m_X3_write S j a1 a2)) 0 0 (cs_A ad) := by
  refine cs_of RX3 (by decide) rfl (Nat.le_of_ble_eq_true rfl) ?_
  intro p e s m below meth c hF hr hlk hw hK ls hl
  obtain ⟨hx, hb, hml, hown, hts⟩ := id hF
  have hS : va_S (cs_A ad) s.heap s.heap [] := va_S.rf
  have hl : lv_has ls 3 [(0, .ref (ad (6 + 2 * j))), (1, .int a1), (2, .int a2)] := hl
  have hok := hw.1.1 j hj
  generalize hRes : m_X3_write S j a1 a2 = Res
  unfold m_X3_write at hRes
  refine lv_iload_n hx hb dX3_write_0 rfl (lv_at hl 1 rfl) ?_
  refine lv_if_lt (tgt := 20) hx hb dX3_write_1 (by decide) (fun c_1 => ?_) (fun c_1 => ?_)
  · replace hRes := cs_T c_1 hRes
    exact cs_vret hF hr hlk hw hK hS dX3_write_20 hRes
  · replace hRes := cs_F c_1 hRes
    refine lv_iload_n hx hb dX3_write_4 rfl (lv_at hl 1 rfl) ?_
    refine lv_aload_n hx hb dX3_write_5 rfl (lv_at hl 0 rfl) ?_
    refine cs_get (C := RX3) (T := TX3) (N := 2) hF in_X3 hw hK (6 + 2 * j) (cs_gO cy ad S j hj) rfl 0 (by decide) q_5 rfl dX3_write_6 ?_
    refine cs_len hF hw hK j hj dX3_write_9 ?_
    refine lv_icmp_ge (tgt := 20) hx hb dX3_write_10 (by decide) (fun c_2 => ?_) (fun c_2 => ?_)
    · replace hRes := cs_T c_2 hRes
      exact cs_vret hF hr hlk hw hK hS dX3_write_20 hRes
    · replace hRes := cs_F c_2 hRes
      refine lv_aload_n hx hb dX3_write_13 rfl (lv_at hl 0 rfl) ?_
      refine cs_get (C := RX3) (T := TX3) (N := 2) hF in_X3 hw hK (6 + 2 * j) (cs_gO cy ad S j hj) rfl 0 (by decide) q_5 rfl dX3_write_14 ?_
      refine lv_iload_n hx hb dX3_write_17 rfl (lv_at hl 1 rfl) ?_
      refine lv_iload_n hx hb dX3_write_18 rfl (lv_at hl 2 rfl) ?_
      refine cs_ast hF hw hK hS j hj c_1 c_2 (hx13) dX3_write_19 (fun S_3 H locs hq hw hS => ?_)
      replace hRes := cs_letE hq hRes
      have hu : (S_3.1 j).2 = (S.1 j).2 := by rw [hq, cs_sR_1]
      clear hq
      exact cs_vret hF hr hlk hw hK hS dX3_write_20 hRes
theorem kk_X3_write : yX3_write.cls = RX3 ∧ yX3_write.cls ≠ "java/lang/invoke/MethodHandle" ∧ yX3_write.cls ≠ "java/lang/invoke/VarHandle" ∧ (parseMethodDescriptor yX3_write.desc).map (fun d => d.parameters.length) = some 2 := by decide +kernel
def m_X3_raise (S : cs_St) (j : Nat) (a1 : Int32) (a2 : Int32) : cs_St := (if a1 < 0 then S else (if (nI (cs_cap j)) ≤ a1 then S else cs_let (cs_sR S j (upd (S.1 j).1 a1.toNatClampNeg (((S.1 j).1 a1.toNatClampNeg) + a2), (S.1 j).2)) (fun S_3 => S_3)))
set_option maxHeartbeats 4000000 in
set_option maxRecDepth 100000 in
theorem c_X3_raise (l : Launch) (D : va_G) (cy : ClassId) (ad : Nat → Nat) (S : cs_St) (j : Nat) (a1 : Int32) (a2 : Int32) (hj : j < 19) (hx13 : j ≠ 13) : Met l yX3_raise (cs_ws yX3_raise cX3_raise 3 none) (cs_rm 0 0) (cs_Pc D cy ad [.ref (ad (6 + 2 * j)), .int a1, .int a2] S) (cs_Qv D cy ad (fun S1 => S1 = m_X3_raise S j a1 a2)) 0 0 (cs_A ad) := by
  refine cs_of RX3 (by decide) rfl (Nat.le_of_ble_eq_true rfl) ?_
  intro p e s m below meth c hF hr hlk hw hK ls hl
  obtain ⟨hx, hb, hml, hown, hts⟩ := id hF
  have hS : va_S (cs_A ad) s.heap s.heap [] := va_S.rf
  have hl : lv_has ls 3 [(0, .ref (ad (6 + 2 * j))), (1, .int a1), (2, .int a2)] := hl
  have hok := hw.1.1 j hj
  generalize hRes : m_X3_raise S j a1 a2 = Res
  unfold m_X3_raise at hRes
  refine lv_iload_n hx hb dX3_raise_0 rfl (lv_at hl 1 rfl) ?_
  refine lv_if_lt (tgt := 23) hx hb dX3_raise_1 (by decide) (fun c_1 => ?_) (fun c_1 => ?_)
  · replace hRes := cs_T c_1 hRes
    exact cs_vret hF hr hlk hw hK hS dX3_raise_23 hRes
  · replace hRes := cs_F c_1 hRes
    refine lv_iload_n hx hb dX3_raise_4 rfl (lv_at hl 1 rfl) ?_
    refine lv_aload_n hx hb dX3_raise_5 rfl (lv_at hl 0 rfl) ?_
    refine cs_get (C := RX3) (T := TX3) (N := 2) hF in_X3 hw hK (6 + 2 * j) (cs_gO cy ad S j hj) rfl 0 (by decide) q_5 rfl dX3_raise_6 ?_
    refine cs_len hF hw hK j hj dX3_raise_9 ?_
    refine lv_icmp_ge (tgt := 23) hx hb dX3_raise_10 (by decide) (fun c_2 => ?_) (fun c_2 => ?_)
    · replace hRes := cs_T c_2 hRes
      exact cs_vret hF hr hlk hw hK hS dX3_raise_23 hRes
    · replace hRes := cs_F c_2 hRes
      refine lv_aload_n hx hb dX3_raise_13 rfl (lv_at hl 0 rfl) ?_
      refine cs_get (C := RX3) (T := TX3) (N := 2) hF in_X3 hw hK (6 + 2 * j) (cs_gO cy ad S j hj) rfl 0 (by decide) q_5 rfl dX3_raise_14 ?_
      refine lv_iload_n hx hb dX3_raise_17 rfl (lv_at hl 1 rfl) ?_
      refine lv_dup2_11 hx hb dX3_raise_18 rfl rfl ?_
      refine cs_ald hF hw hK j hj c_1 c_2 dX3_raise_19 ?_
      refine lv_iload_n hx hb dX3_raise_20 rfl (lv_at hl 2 rfl) ?_
      refine lv_iadd hx hb dX3_raise_21 ?_
      refine cs_ast hF hw hK hS j hj c_1 c_2 (fun h => absurd h hx13) dX3_raise_22 (fun S_3 H locs hq hw hS => ?_)
      replace hRes := cs_letE hq hRes
      have hu : (S_3.1 j).2 = (S.1 j).2 := by rw [hq, cs_sR_1]
      clear hq
      exact cs_vret hF hr hlk hw hK hS dX3_raise_23 hRes
theorem kk_X3_raise : yX3_raise.cls = RX3 ∧ yX3_raise.cls ≠ "java/lang/invoke/MethodHandle" ∧ yX3_raise.cls ≠ "java/lang/invoke/VarHandle" ∧ (parseMethodDescriptor yX3_raise.desc).map (fun d => d.parameters.length) = some 2 := by decide +kernel
def m_X3_append (S : cs_St) (j : Nat) (a1 : Int32) : cs_St := (if (nI (S.1 j).2) < 0 then S else (if (nI (cs_cap j)) ≤ (nI (S.1 j).2) then S else cs_let (cs_sR S j (upd (S.1 j).1 (nI (S.1 j).2).toNatClampNeg a1, (S.1 j).2)) (fun S_3 => cs_let (cs_sR S_3 j ((S_3.1 j).1, (S_3.1 j).2 + 1)) (fun S_4 => S_4))))
set_option maxHeartbeats 4000000 in
set_option maxRecDepth 100000 in
theorem c_X3_append (l : Launch) (D : va_G) (cy : ClassId) (ad : Nat → Nat) (S : cs_St) (j : Nat) (a1 : Int32) (hj : j < 19) (hx13 : j ≠ 13) : Met l yX3_append (cs_ws yX3_append cX3_append 2 none) (cs_rm 0 0) (cs_Pc D cy ad [.ref (ad (6 + 2 * j)), .int a1] S) (cs_Qv D cy ad (fun S1 => S1 = m_X3_append S j a1)) 0 0 (cs_A ad) := by
  refine cs_of RX3 (by decide) rfl (Nat.le_of_ble_eq_true rfl) ?_
  intro p e s m below meth c hF hr hlk hw hK ls hl
  obtain ⟨hx, hb, hml, hown, hts⟩ := id hF
  have hS : va_S (cs_A ad) s.heap s.heap [] := va_S.rf
  have hl : lv_has ls 2 [(0, .ref (ad (6 + 2 * j))), (1, .int a1)] := hl
  have hok := hw.1.1 j hj
  generalize hRes : m_X3_append S j a1 = Res
  unfold m_X3_append at hRes
  refine lv_aload_n hx hb dX3_append_0 rfl (lv_at hl 0 rfl) ?_
  refine cs_get (C := RX3) (T := TX3) (N := 2) hF in_X3 hw hK (6 + 2 * j) (cs_gO cy ad S j hj) rfl 1 (by decide) q_16 rfl dX3_append_1 ?_
  refine lv_if_lt (tgt := 39) hx hb dX3_append_4 (by decide) (fun c_1 => ?_) (fun c_1 => ?_)
  · replace hRes := cs_T c_1 hRes
    exact cs_vret hF hr hlk hw hK hS dX3_append_39 hRes
  · replace hRes := cs_F c_1 hRes
    refine lv_aload_n hx hb dX3_append_7 rfl (lv_at hl 0 rfl) ?_
    refine cs_get (C := RX3) (T := TX3) (N := 2) hF in_X3 hw hK (6 + 2 * j) (cs_gO cy ad S j hj) rfl 1 (by decide) q_16 rfl dX3_append_8 ?_
    refine lv_aload_n hx hb dX3_append_11 rfl (lv_at hl 0 rfl) ?_
    refine cs_get (C := RX3) (T := TX3) (N := 2) hF in_X3 hw hK (6 + 2 * j) (cs_gO cy ad S j hj) rfl 0 (by decide) q_5 rfl dX3_append_12 ?_
    refine cs_len hF hw hK j hj dX3_append_15 ?_
    refine lv_icmp_ge (tgt := 39) hx hb dX3_append_16 (by decide) (fun c_2 => ?_) (fun c_2 => ?_)
    · replace hRes := cs_T c_2 hRes
      exact cs_vret hF hr hlk hw hK hS dX3_append_39 hRes
    · replace hRes := cs_F c_2 hRes
      refine lv_aload_n hx hb dX3_append_19 rfl (lv_at hl 0 rfl) ?_
      refine cs_get (C := RX3) (T := TX3) (N := 2) hF in_X3 hw hK (6 + 2 * j) (cs_gO cy ad S j hj) rfl 0 (by decide) q_5 rfl dX3_append_20 ?_
      refine lv_aload_n hx hb dX3_append_23 rfl (lv_at hl 0 rfl) ?_
      refine cs_get (C := RX3) (T := TX3) (N := 2) hF in_X3 hw hK (6 + 2 * j) (cs_gO cy ad S j hj) rfl 1 (by decide) q_16 rfl dX3_append_24 ?_
      refine lv_iload_n hx hb dX3_append_27 rfl (lv_at hl 1 rfl) ?_
      refine cs_ast hF hw hK hS j hj c_1 c_2 (fun h => absurd h hx13) dX3_append_28 (fun S_3 H locs hq hw hS => ?_)
      replace hRes := cs_letE hq hRes
      have hu : (S_3.1 j).2 = (S.1 j).2 := by rw [hq, cs_sR_1]
      clear hq
      refine lv_aload_n hx hb dX3_append_29 rfl (lv_at hl 0 rfl) ?_
      refine lv_dup hx hb dX3_append_30 rfl ?_
      refine cs_get (C := RX3) (T := TX3) (N := 2) hF in_X3 hw hK (6 + 2 * j) (cs_gO cy ad S_3 j hj) rfl 1 (by decide) q_16 rfl dX3_append_31 ?_
      refine lv_iconst (v := 1) hx hb dX3_append_34 (by decide) ?_
      refine lv_iadd hx hb dX3_append_35 ?_
      refine cs_putU hF hw hK hS j hj q_16 ((S_3.1 j).2 + 1) (nI_1 _) (by rw [hu]; exact cs_ltU (hok) c_2) dX3_append_36 (fun S_4 H locs hq hw hS => ?_)
      replace hRes := cs_letE hq hRes
      clear hq
      exact cs_vret hF hr hlk hw hK hS dX3_append_39 hRes
theorem kk_X3_append : yX3_append.cls = RX3 ∧ yX3_append.cls ≠ "java/lang/invoke/MethodHandle" ∧ yX3_append.cls ≠ "java/lang/invoke/VarHandle" ∧ (parseMethodDescriptor yX3_append.desc).map (fun d => d.parameters.length) = some 1 := by decide +kernel
def m_X3_open (S : cs_St) (j : Nat) (a1 : Int32) (a2 : Int32) : cs_St := (if a1 < 0 then S else (if (nI (S.1 j).2) < a1 then S else (if a2 ≤ 0 then S else (if ((nI (cs_cap j)) - (nI (S.1 j).2)) < a2 then S else cs_let (cs_sR S j (va_cpy (S.1 j).1 (S.1 j).1 a1.toNatClampNeg (a1 + a2).toNatClampNeg ((nI (S.1 j).2) - a1).toNatClampNeg, (S.1 j).2)) (fun S_5 => cs_let (cs_sR S_5 j ((S_5.1 j).1, (S_5.1 j).2 + a2.toNatClampNeg)) (fun S_6 => S_6))))))
set_option maxHeartbeats 4000000 in
set_option maxRecDepth 100000 in
theorem c_X3_open (l : Launch) (D : va_G) (cy : ClassId) (ad : Nat → Nat) (S : cs_St) (j : Nat) (a1 : Int32) (a2 : Int32) (hj : j < 19) : Met l yX3_open (cs_ws yX3_open cX3_open 3 none) (cs_rm 1 60) (cs_Pc D cy ad [.ref (ad (6 + 2 * j)), .int a1, .int a2] S) (cs_Qv D cy ad (fun S1 => S1 = m_X3_open S j a1 a2)) 0 0 (cs_A ad) := by
  refine cs_of RX3 (by decide) rfl (Nat.le_of_ble_eq_true rfl) ?_
  intro p e s m below meth c hF hr hlk hw hK ls hl
  obtain ⟨hx, hb, hml, hown, hts⟩ := id hF
  have hS : va_S (cs_A ad) s.heap s.heap [] := va_S.rf
  have hl : lv_has ls 3 [(0, .ref (ad (6 + 2 * j))), (1, .int a1), (2, .int a2)] := hl
  have hok := hw.1.1 j hj
  generalize hRes : m_X3_open S j a1 a2 = Res
  unfold m_X3_open at hRes
  refine lv_iload_n hx hb dX3_open_0 rfl (lv_at hl 1 rfl) ?_
  refine lv_if_lt (tgt := 61) hx hb dX3_open_1 (by decide) (fun c_1 => ?_) (fun c_1 => ?_)
  · replace hRes := cs_T c_1 hRes
    exact cs_vret hF hr hlk hw hK hS dX3_open_61 hRes
  · replace hRes := cs_F c_1 hRes
    refine lv_iload_n hx hb dX3_open_4 rfl (lv_at hl 1 rfl) ?_
    refine lv_aload_n hx hb dX3_open_5 rfl (lv_at hl 0 rfl) ?_
    refine cs_get (C := RX3) (T := TX3) (N := 2) hF in_X3 hw hK (6 + 2 * j) (cs_gO cy ad S j hj) rfl 1 (by decide) q_16 rfl dX3_open_6 ?_
    refine lv_icmp_gt (tgt := 61) hx hb dX3_open_9 (by decide) (fun c_2 => ?_) (fun c_2 => ?_)
    · replace hRes := cs_T c_2 hRes
      exact cs_vret hF hr hlk hw hK hS dX3_open_61 hRes
    · replace hRes := cs_F c_2 hRes
      refine lv_iload_n hx hb dX3_open_12 rfl (lv_at hl 2 rfl) ?_
      refine lv_if_le (tgt := 61) hx hb dX3_open_13 (by decide) (fun c_3 => ?_) (fun c_3 => ?_)
      · replace hRes := cs_T c_3 hRes
        exact cs_vret hF hr hlk hw hK hS dX3_open_61 hRes
      · replace hRes := cs_F c_3 hRes
        refine lv_iload_n hx hb dX3_open_16 rfl (lv_at hl 2 rfl) ?_
        refine lv_aload_n hx hb dX3_open_17 rfl (lv_at hl 0 rfl) ?_
        refine cs_get (C := RX3) (T := TX3) (N := 2) hF in_X3 hw hK (6 + 2 * j) (cs_gO cy ad S j hj) rfl 0 (by decide) q_5 rfl dX3_open_18 ?_
        refine cs_len hF hw hK j hj dX3_open_21 ?_
        refine lv_aload_n hx hb dX3_open_22 rfl (lv_at hl 0 rfl) ?_
        refine cs_get (C := RX3) (T := TX3) (N := 2) hF in_X3 hw hK (6 + 2 * j) (cs_gO cy ad S j hj) rfl 1 (by decide) q_16 rfl dX3_open_23 ?_
        refine lv_isub hx hb dX3_open_26 ?_
        refine lv_icmp_gt (tgt := 61) hx hb dX3_open_27 (by decide) (fun c_4 => ?_) (fun c_4 => ?_)
        · replace hRes := cs_T c_4 hRes
          exact cs_vret hF hr hlk hw hK hS dX3_open_61 hRes
        · replace hRes := cs_F c_4 hRes
          refine lv_aload_n hx hb dX3_open_30 rfl (lv_at hl 0 rfl) ?_
          refine cs_get (C := RX3) (T := TX3) (N := 2) hF in_X3 hw hK (6 + 2 * j) (cs_gO cy ad S j hj) rfl 0 (by decide) q_5 rfl dX3_open_31 ?_
          refine lv_iload_n hx hb dX3_open_34 rfl (lv_at hl 1 rfl) ?_
          refine lv_aload_n hx hb dX3_open_35 rfl (lv_at hl 0 rfl) ?_
          refine cs_get (C := RX3) (T := TX3) (N := 2) hF in_X3 hw hK (6 + 2 * j) (cs_gO cy ad S j hj) rfl 0 (by decide) q_5 rfl dX3_open_36 ?_
          refine lv_iload_n hx hb dX3_open_39 rfl (lv_at hl 1 rfl) ?_
          refine lv_iload_n hx hb dX3_open_40 rfl (lv_at hl 2 rfl) ?_
          refine lv_iadd hx hb dX3_open_41 ?_
          refine lv_aload_n hx hb dX3_open_42 rfl (lv_at hl 0 rfl) ?_
          refine cs_get (C := RX3) (T := TX3) (N := 2) hF in_X3 hw hK (6 + 2 * j) (cs_gO cy ad S j hj) rfl 1 (by decide) q_16 rfl dX3_open_43 ?_
          refine lv_iload_n hx hb dX3_open_46 rfl (lv_at hl 1 rfl) ?_
          refine lv_isub hx hb dX3_open_47 ?_
          obtain ⟨g1, g2, g3, g4, g5, g6⟩ := cs_opn hok c_1 c_2 c_3 c_4
          refine cs_cpy hF (hml.trans hl.1.symm) hw hK hS j hj q_24 q_25 q_26 q_27 c_1 g1 g2 g3 g4 (Nat.le_of_ble_eq_true rfl) (Nat.le_of_ble_eq_true rfl) dX3_open_48 (fun S_5 H locs hq hw hS => ?_)
          replace hRes := cs_letE hq hRes
          have hu : (S_5.1 j).2 = (S.1 j).2 := by rw [hq, cs_sR_1]
          clear hq
          refine lv_aload_n hx hb dX3_open_51 rfl (lv_at hl 0 rfl) ?_
          refine lv_dup hx hb dX3_open_52 rfl ?_
          refine cs_get (C := RX3) (T := TX3) (N := 2) hF in_X3 hw hK (6 + 2 * j) (cs_gO cy ad S_5 j hj) rfl 1 (by decide) q_16 rfl dX3_open_53 ?_
          refine lv_iload_n hx hb dX3_open_56 rfl (lv_at hl 2 rfl) ?_
          refine lv_iadd hx hb dX3_open_57 ?_
          refine cs_putU hF hw hK hS j hj q_16 ((S_5.1 j).2 + a2.toNatClampNeg) (by rw [hu]; exact g5) (by rw [hu]; exact g6) dX3_open_58 (fun S_6 H locs hq hw hS => ?_)
          replace hRes := cs_letE hq hRes
          clear hq
          exact cs_vret hF hr hlk hw hK hS dX3_open_61 hRes
theorem kk_X3_open : yX3_open.cls = RX3 ∧ yX3_open.cls ≠ "java/lang/invoke/MethodHandle" ∧ yX3_open.cls ≠ "java/lang/invoke/VarHandle" ∧ (parseMethodDescriptor yX3_open.desc).map (fun d => d.parameters.length) = some 2 := by decide +kernel
def m_X3_cut (S : cs_St) (j : Nat) (a1 : Int32) (a2 : Int32) : cs_St := (if a1 < 0 then S else (if a2 ≤ a1 then S else (if (nI (S.1 j).2) < a2 then S else cs_let (cs_sR S j (va_cpy (S.1 j).1 (S.1 j).1 a2.toNatClampNeg a1.toNatClampNeg ((nI (S.1 j).2) - a2).toNatClampNeg, (S.1 j).2)) (fun S_4 => cs_let (cs_sR S_4 j ((S_4.1 j).1, (S_4.1 j).2 - (a2 - a1).toNatClampNeg)) (fun S_5 => S_5)))))
set_option maxHeartbeats 4000000 in
set_option maxRecDepth 100000 in
theorem c_X3_cut (l : Launch) (D : va_G) (cy : ClassId) (ad : Nat → Nat) (S : cs_St) (j : Nat) (a1 : Int32) (a2 : Int32) (hj : j < 19) : Met l yX3_cut (cs_ws yX3_cut cX3_cut 3 none) (cs_rm 1 60) (cs_Pc D cy ad [.ref (ad (6 + 2 * j)), .int a1, .int a2] S) (cs_Qv D cy ad (fun S1 => S1 = m_X3_cut S j a1 a2)) 0 0 (cs_A ad) := by
  refine cs_of RX3 (by decide) rfl (Nat.le_of_ble_eq_true rfl) ?_
  intro p e s m below meth c hF hr hlk hw hK ls hl
  obtain ⟨hx, hb, hml, hown, hts⟩ := id hF
  have hS : va_S (cs_A ad) s.heap s.heap [] := va_S.rf
  have hl : lv_has ls 3 [(0, .ref (ad (6 + 2 * j))), (1, .int a1), (2, .int a2)] := hl
  have hok := hw.1.1 j hj
  generalize hRes : m_X3_cut S j a1 a2 = Res
  unfold m_X3_cut at hRes
  refine lv_iload_n hx hb dX3_cut_0 rfl (lv_at hl 1 rfl) ?_
  refine lv_if_lt (tgt := 48) hx hb dX3_cut_1 (by decide) (fun c_1 => ?_) (fun c_1 => ?_)
  · replace hRes := cs_T c_1 hRes
    exact cs_vret hF hr hlk hw hK hS dX3_cut_48 hRes
  · replace hRes := cs_F c_1 hRes
    refine lv_iload_n hx hb dX3_cut_4 rfl (lv_at hl 1 rfl) ?_
    refine lv_iload_n hx hb dX3_cut_5 rfl (lv_at hl 2 rfl) ?_
    refine lv_icmp_ge (tgt := 48) hx hb dX3_cut_6 (by decide) (fun c_2 => ?_) (fun c_2 => ?_)
    · replace hRes := cs_T c_2 hRes
      exact cs_vret hF hr hlk hw hK hS dX3_cut_48 hRes
    · replace hRes := cs_F c_2 hRes
      refine lv_iload_n hx hb dX3_cut_9 rfl (lv_at hl 2 rfl) ?_
      refine lv_aload_n hx hb dX3_cut_10 rfl (lv_at hl 0 rfl) ?_
      refine cs_get (C := RX3) (T := TX3) (N := 2) hF in_X3 hw hK (6 + 2 * j) (cs_gO cy ad S j hj) rfl 1 (by decide) q_16 rfl dX3_cut_11 ?_
      refine lv_icmp_gt (tgt := 48) hx hb dX3_cut_14 (by decide) (fun c_3 => ?_) (fun c_3 => ?_)
      · replace hRes := cs_T c_3 hRes
        exact cs_vret hF hr hlk hw hK hS dX3_cut_48 hRes
      · replace hRes := cs_F c_3 hRes
        refine lv_aload_n hx hb dX3_cut_17 rfl (lv_at hl 0 rfl) ?_
        refine cs_get (C := RX3) (T := TX3) (N := 2) hF in_X3 hw hK (6 + 2 * j) (cs_gO cy ad S j hj) rfl 0 (by decide) q_5 rfl dX3_cut_18 ?_
        refine lv_iload_n hx hb dX3_cut_21 rfl (lv_at hl 2 rfl) ?_
        refine lv_aload_n hx hb dX3_cut_22 rfl (lv_at hl 0 rfl) ?_
        refine cs_get (C := RX3) (T := TX3) (N := 2) hF in_X3 hw hK (6 + 2 * j) (cs_gO cy ad S j hj) rfl 0 (by decide) q_5 rfl dX3_cut_23 ?_
        refine lv_iload_n hx hb dX3_cut_26 rfl (lv_at hl 1 rfl) ?_
        refine lv_aload_n hx hb dX3_cut_27 rfl (lv_at hl 0 rfl) ?_
        refine cs_get (C := RX3) (T := TX3) (N := 2) hF in_X3 hw hK (6 + 2 * j) (cs_gO cy ad S j hj) rfl 1 (by decide) q_16 rfl dX3_cut_28 ?_
        refine lv_iload_n hx hb dX3_cut_31 rfl (lv_at hl 2 rfl) ?_
        refine lv_isub hx hb dX3_cut_32 ?_
        obtain ⟨g1, g2, g3, g4, g5, g6⟩ := cs_ctt hok c_1 c_2 c_3
        refine cs_cpy hF (hml.trans hl.1.symm) hw hK hS j hj q_24 q_25 q_26 q_27 g1 c_1 g2 g3 g4 (Nat.le_of_ble_eq_true rfl) (Nat.le_of_ble_eq_true rfl) dX3_cut_33 (fun S_4 H locs hq hw hS => ?_)
        replace hRes := cs_letE hq hRes
        have hu : (S_4.1 j).2 = (S.1 j).2 := by rw [hq, cs_sR_1]
        clear hq
        refine lv_aload_n hx hb dX3_cut_36 rfl (lv_at hl 0 rfl) ?_
        refine lv_dup hx hb dX3_cut_37 rfl ?_
        refine cs_get (C := RX3) (T := TX3) (N := 2) hF in_X3 hw hK (6 + 2 * j) (cs_gO cy ad S_4 j hj) rfl 1 (by decide) q_16 rfl dX3_cut_38 ?_
        refine lv_iload_n hx hb dX3_cut_41 rfl (lv_at hl 2 rfl) ?_
        refine lv_iload_n hx hb dX3_cut_42 rfl (lv_at hl 1 rfl) ?_
        refine lv_isub hx hb dX3_cut_43 ?_
        refine lv_isub hx hb dX3_cut_44 ?_
        refine cs_putU hF hw hK hS j hj q_16 ((S_4.1 j).2 - (a2 - a1).toNatClampNeg) (by rw [hu]; exact g5) (by rw [hu]; exact g6) dX3_cut_45 (fun S_5 H locs hq hw hS => ?_)
        replace hRes := cs_letE hq hRes
        clear hq
        exact cs_vret hF hr hlk hw hK hS dX3_cut_48 hRes
theorem kk_X3_cut : yX3_cut.cls = RX3 ∧ yX3_cut.cls ≠ "java/lang/invoke/MethodHandle" ∧ yX3_cut.cls ≠ "java/lang/invoke/VarHandle" ∧ (parseMethodDescriptor yX3_cut.desc).map (fun d => d.parameters.length) = some 2 := by decide +kernel
def m_X3_empty (S : cs_St) (j : Nat) : cs_St := cs_let (cs_sR S j ((S.1 j).1, 0)) (fun S_1 => S_1)
set_option maxHeartbeats 4000000 in
set_option maxRecDepth 100000 in
theorem c_X3_empty (l : Launch) (D : va_G) (cy : ClassId) (ad : Nat → Nat) (S : cs_St) (j : Nat) (hj : j < 19) : Met l yX3_empty (cs_ws yX3_empty cX3_empty 1 none) (cs_rm 0 0) (cs_Pc D cy ad [.ref (ad (6 + 2 * j))] S) (cs_Qv D cy ad (fun S1 => S1 = m_X3_empty S j)) 0 0 (cs_A ad) := by
  refine cs_of RX3 (by decide) rfl (Nat.le_of_ble_eq_true rfl) ?_
  intro p e s m below meth c hF hr hlk hw hK ls hl
  obtain ⟨hx, hb, hml, hown, hts⟩ := id hF
  have hS : va_S (cs_A ad) s.heap s.heap [] := va_S.rf
  have hl : lv_has ls 1 [(0, .ref (ad (6 + 2 * j)))] := hl
  have hok := hw.1.1 j hj
  generalize hRes : m_X3_empty S j = Res
  unfold m_X3_empty at hRes
  refine lv_aload_n hx hb dX3_empty_0 rfl (lv_at hl 0 rfl) ?_
  refine lv_iconst (v := 0) hx hb dX3_empty_1 (by decide) ?_
  refine cs_putU hF hw hK hS j hj q_16 (0) (rfl) (Nat.zero_le _) dX3_empty_2 (fun S_1 H locs hq hw hS => ?_)
  replace hRes := cs_letE hq hRes
  clear hq
  exact cs_vret hF hr hlk hw hK hS dX3_empty_5 hRes
theorem kk_X3_empty : yX3_empty.cls = RX3 ∧ yX3_empty.cls ≠ "java/lang/invoke/MethodHandle" ∧ yX3_empty.cls ≠ "java/lang/invoke/VarHandle" ∧ (parseMethodDescriptor yX3_empty.desc).map (fun d => d.parameters.length) = some 0 := by decide +kernel
def m_X3_wipe_L2 (j : Nat) : Nat → Int32 → cs_St → Int32 × cs_St
  | 0, _, S => (0, S)
  | n + 1, v1, S => (if (nI (cs_cap j)) ≤ v1 then (v1, S) else cs_let (cs_sR S j (upd (S.1 j).1 v1.toNatClampNeg 0, (S.1 j).2)) (fun S_2 => m_X3_wipe_L2 j n (v1 + 1) S_2))
theorem m_X3_wipe_L2_s {j : Nat} {n : Nat} {v1 : Int32} {S : cs_St} : m_X3_wipe_L2 j (n + 1) v1 S = (if (nI (cs_cap j)) ≤ v1 then (v1, S) else cs_let (cs_sR S j (upd (S.1 j).1 v1.toNatClampNeg 0, (S.1 j).2)) (fun S_2 => m_X3_wipe_L2 j n (v1 + 1) S_2)) := rfl
def m_X3_wipe (S : cs_St) (j : Nat) : cs_St := cs_let (m_X3_wipe_L2 j cs_N 0 S) (fun T_3 => T_3.2)
set_option maxHeartbeats 4000000 in
set_option maxRecDepth 100000 in
theorem c_X3_wipe (l : Launch) (D : va_G) (cy : ClassId) (ad : Nat → Nat) (S : cs_St) (j : Nat) (hj : j < 19) : Met l yX3_wipe (cs_ws yX3_wipe cX3_wipe 2 none) (cs_rm 0 0) (cs_Pc D cy ad [.ref (ad (6 + 2 * j))] S) (cs_Qv D cy ad (fun S1 => S1 = m_X3_wipe S j)) 0 0 (cs_A ad) := by
  refine cs_of RX3 (by decide) rfl (Nat.le_of_ble_eq_true rfl) ?_
  intro p e s m below meth c hF hr hlk hw hK ls hl
  obtain ⟨hx, hb, hml, hown, hts⟩ := id hF
  have hS : va_S (cs_A ad) s.heap s.heap [] := va_S.rf
  have hl : lv_has ls 2 [(0, .ref (ad (6 + 2 * j)))] := hl
  have hok := hw.1.1 j hj
  generalize hRes : m_X3_wipe S j = Res
  unfold m_X3_wipe at hRes
  refine lv_iconst (v := 0) hx hb dX3_wipe_0 (by decide) ?_
  refine lv_istore_n (lv' := [(1, .int 0), (0, .ref (ad (6 + 2 * j)))]) hx hb dX3_wipe_1 rfl hl (by decide) rfl (fun ls hl => ?_)
  -- the loop at 2
  obtain ⟨T_3, hq⟩ : ∃ z, z = m_X3_wipe_L2 j cs_N 0 S := ⟨_, rfl⟩
  replace hRes := cs_letE hq hRes
  have hk : ∀ (H : Heap) (locs : List Loc) (ls : Array Slot), cs_w D cy ad T_3.2 H → va_S (cs_A ad) s.heap H locs → lv_has ls 2 [(1, .int T_3.1), (0, .ref (ad (6 + 2 * j)))] → W p l e (cs_rm 0 0) s m ([.ref (ad (6 + 2 * j))]).toArray below meth c H locs 0 0 (MQ below (cs_Qv D cy ad (fun S1 => S1 = Res)) ([.ref (ad (6 + 2 * j))]).toArray s 0 0 (cs_A ad)) (F0 m 24 ls []) := by
    intro H locs ls hw hS hl
    exact cs_vret hF hr hlk hw hK hS dX3_wipe_24 hRes
  have lp : ∀ (n : Nat) (v1 : Int32) (S : cs_St) (H : Heap) (locs : List Loc), cs_w D cy ad S H → va_S (cs_A ad) s.heap H locs → ∀ (ls : Array Slot), lv_has ls 2 [(1, .int v1), (0, .ref (ad (6 + 2 * j)))] → (2147483647 - v1.toInt < (n : Int) ∧ 0 < n) → (¬ v1 < 0) → m_X3_wipe_L2 j n v1 S = T_3 → W p l e (cs_rm 0 0) s m ([.ref (ad (6 + 2 * j))]).toArray below meth c H locs 0 0 (MQ below (cs_Qv D cy ad (fun S1 => S1 = Res)) ([.ref (ad (6 + 2 * j))]).toArray s 0 0 (cs_A ad)) (F0 m 2 ls []) := by
    intro n
    induction n with
    | zero => intro v1 S H locs hw hS ls hl hm; exact absurd hm.2 (Nat.lt_irrefl 0)
    | succ n ih =>
      intro v1 S H locs hw hS ls hl hm hi hE
      replace hE := m_X3_wipe_L2_s.symm.trans hE
      refine lv_iload_n hx hb dX3_wipe_2 rfl (lv_at hl 0 rfl) ?_
      refine lv_aload_n hx hb dX3_wipe_3 rfl (lv_at hl 1 rfl) ?_
      refine cs_get (C := RX3) (T := TX3) (N := 2) hF in_X3 hw hK (6 + 2 * j) (cs_gO cy ad S j hj) rfl 0 (by decide) q_5 rfl dX3_wipe_4 ?_
      refine cs_len hF hw hK j hj dX3_wipe_7 ?_
      refine lv_icmp_ge (tgt := 24) hx hb dX3_wipe_8 (by decide) (fun c_1 => ?_) (fun c_1 => ?_)
      · replace hE := cs_T c_1 hE
        subst hE
        exact hk _ _ _ hw hS (lv_sub hl [0, 1] rfl)
      · replace hE := cs_F c_1 hE
        refine lv_aload_n hx hb dX3_wipe_11 rfl (lv_at hl 1 rfl) ?_
        refine cs_get (C := RX3) (T := TX3) (N := 2) hF in_X3 hw hK (6 + 2 * j) (cs_gO cy ad S j hj) rfl 0 (by decide) q_5 rfl dX3_wipe_12 ?_
        refine lv_iload_n hx hb dX3_wipe_15 rfl (lv_at hl 0 rfl) ?_
        refine lv_iconst (v := 0) hx hb dX3_wipe_16 (by decide) ?_
        refine cs_ast hF hw hK hS j hj hi c_1 (fun _ => by decide) dX3_wipe_17 (fun S_2 H locs hq hw hS => ?_)
        replace hE := cs_letE hq hE
        have hu : (S_2.1 j).2 = (S.1 j).2 := by rw [hq, cs_sR_1]
        clear hq
        refine lv_iinc (v := v1 + 1) (lv' := [(1, .int (v1 + 1)), (0, .ref (ad (6 + 2 * j)))]) hx hb dX3_wipe_18 hl (k := 0) rfl rfl (by decide) rfl (fun ls hl => ?_)
        refine lv_goto (tgt := 2) hx hb dX3_wipe_21 (by decide) ?_
        exact ih (v1 + 1) S_2 _ _ hw hS _ (lv_sub hl [0, 1] rfl) (cs_up hm.1 c_1) (cs_nn hi c_1) hE
  exact lp cs_N 0 S _ _ hw hS _ (lv_sub hl [0, 1] rfl) (cs_up0 0) (by decide) hq.symm
theorem kk_X3_wipe : yX3_wipe.cls = RX3 ∧ yX3_wipe.cls ≠ "java/lang/invoke/MethodHandle" ∧ yX3_wipe.cls ≠ "java/lang/invoke/VarHandle" ∧ (parseMethodDescriptor yX3_wipe.desc).map (fun d => d.parameters.length) = some 0 := by decide +kernel
theorem g_X3_23 : GoodIn cs_WS (wsV RX3 23 RX3 yX3_length (cs_ws yX3_length cX3_length 1 (some .int))) := cs_goodV q_114 q_20 q_21 q_10 q_15
theorem g_X3_27 : GoodIn cs_WS (wsV RX3 27 RX3 yX3_at (cs_ws yX3_at cX3_at 2 (some .int))) := cs_goodV q_115 q_50 q_51 q_10 q_47
theorem g_X3_31 : GoodIn cs_WS (wsV RX3 31 RX3 yX3_append (cs_ws yX3_append cX3_append 2 none)) := cs_goodV q_116 q_97 q_98 q_10 q_85
def m_X3_copy_L7 (j : Nat) (j1 : Nat) : Nat → Int32 → cs_St → Int32 × cs_St
  | 0, _, S => (0, S)
  | n + 1, v2, S => cs_let (m_X3_length S j1) (fun r_2 => (if r_2 ≤ v2 then (v2, S) else cs_let (m_X3_at S j1 v2) (fun r_4 => cs_let (m_X3_append S j r_4) (fun S_5 => m_X3_copy_L7 j j1 n (v2 + 1) S_5))))
theorem m_X3_copy_L7_s {j : Nat} {j1 : Nat} {n : Nat} {v2 : Int32} {S : cs_St} : m_X3_copy_L7 j j1 (n + 1) v2 S = cs_let (m_X3_length S j1) (fun r_2 => (if r_2 ≤ v2 then (v2, S) else cs_let (m_X3_at S j1 v2) (fun r_4 => cs_let (m_X3_append S j r_4) (fun S_5 => m_X3_copy_L7 j j1 n (v2 + 1) S_5)))) := rfl
def m_X3_copy (S : cs_St) (j : Nat) (j1 : Nat) : cs_St := cs_let (cs_sR S j ((S.1 j).1, 0)) (fun S_1 => cs_let (m_X3_copy_L7 j j1 cs_N 0 S_1) (fun T_6 => T_6.2))
set_option maxHeartbeats 4000000 in
set_option maxRecDepth 100000 in
theorem c_X3_copy (l : Launch) (D : va_G) (cy : ClassId) (ad : Nat → Nat) (S : cs_St) (j : Nat) (j1 : Nat) (hj : j < 19) (hj1 : j1 < 19) (nj : j ≠ 13) : Met l yX3_copy (cs_ws yX3_copy cX3_copy 3 none) (cs_rm 1 21) (cs_Pc D cy ad [.ref (ad (6 + 2 * j)), .ref (ad (6 + 2 * j1))] S) (cs_Qv D cy ad (fun S1 => S1 = m_X3_copy S j j1)) 0 0 (cs_A ad) := by
  refine cs_of RX3 (by decide) rfl (Nat.le_of_ble_eq_true rfl) ?_
  intro p e s m below meth c hF hr hlk hw hK ls hl
  obtain ⟨hx, hb, hml, hown, hts⟩ := id hF
  have hS : va_S (cs_A ad) s.heap s.heap [] := va_S.rf
  have hl : lv_has ls 3 [(0, .ref (ad (6 + 2 * j))), (1, .ref (ad (6 + 2 * j1)))] := hl
  have hok := hw.1.1 j hj
  generalize hRes : m_X3_copy S j j1 = Res
  unfold m_X3_copy at hRes
  refine lv_aload_n hx hb dX3_copy_0 rfl (lv_at hl 0 rfl) ?_
  refine lv_iconst (v := 0) hx hb dX3_copy_1 (by decide) ?_
  refine cs_putU hF hw hK hS j hj q_16 (0) (rfl) (Nat.zero_le _) dX3_copy_2 (fun S_1 H locs hq hw hS => ?_)
  replace hRes := cs_letE hq hRes
  clear hq
  refine lv_iconst (v := 0) hx hb dX3_copy_5 (by decide) ?_
  refine lv_istore_n (lv' := [(2, .int 0), (0, .ref (ad (6 + 2 * j))), (1, .ref (ad (6 + 2 * j1)))]) hx hb dX3_copy_6 rfl hl (by decide) rfl (fun ls hl => ?_)
  -- the loop at 7
  obtain ⟨T_6, hq⟩ : ∃ z, z = m_X3_copy_L7 j j1 cs_N 0 S_1 := ⟨_, rfl⟩
  replace hRes := cs_letE hq hRes
  have hk : ∀ (H : Heap) (locs : List Loc) (ls : Array Slot), cs_w D cy ad T_6.2 H → va_S (cs_A ad) s.heap H locs → lv_has ls 3 [(2, .int T_6.1), (0, .ref (ad (6 + 2 * j))), (1, .ref (ad (6 + 2 * j1)))] → W p l e (cs_rm 1 21) s m ([.ref (ad (6 + 2 * j)), .ref (ad (6 + 2 * j1))]).toArray below meth c H locs 0 0 (MQ below (cs_Qv D cy ad (fun S1 => S1 = Res)) ([.ref (ad (6 + 2 * j)), .ref (ad (6 + 2 * j1))]).toArray s 0 0 (cs_A ad)) (F0 m 30 ls []) := by
    intro H locs ls hw hS hl
    exact cs_vret hF hr hlk hw hK hS dX3_copy_30 hRes
  have lp : ∀ (n : Nat) (v2 : Int32) (S : cs_St) (H : Heap) (locs : List Loc), cs_w D cy ad S H → va_S (cs_A ad) s.heap H locs → ∀ (ls : Array Slot), lv_has ls 3 [(2, .int v2), (0, .ref (ad (6 + 2 * j))), (1, .ref (ad (6 + 2 * j1)))] → (2147483647 - v2.toInt < (n : Int) ∧ 0 < n) → m_X3_copy_L7 j j1 n v2 S = T_6 → W p l e (cs_rm 1 21) s m ([.ref (ad (6 + 2 * j)), .ref (ad (6 + 2 * j1))]).toArray below meth c H locs 0 0 (MQ below (cs_Qv D cy ad (fun S1 => S1 = Res)) ([.ref (ad (6 + 2 * j)), .ref (ad (6 + 2 * j1))]).toArray s 0 0 (cs_A ad)) (F0 m 7 ls []) := by
    intro n
    induction n with
    | zero => intro v2 S H locs hw hS ls hl hm; exact absurd hm.2 (Nat.lt_irrefl 0)
    | succ n ih =>
      intro v2 S H locs hw hS ls hl hm hE
      replace hE := m_X3_copy_L7_s.symm.trans hE
      refine lv_iload_n hx hb dX3_copy_7 rfl (lv_at hl 0 rfl) ?_
      refine lv_aload_n hx hb dX3_copy_8 rfl (lv_at hl 2 rfl) ?_
      refine cs_vir hF (c_X3_length l D cy ad S j1 hj1) (cwV 0 hts g_X3_23 rfl rfl rfl kk_X3_length ⟨Nat.le_of_ble_eq_true rfl, Nat.le_of_ble_eq_true rfl⟩) (cs_recvR hK hw hj1) hw hK hS rfl hl.1 [.int v2] rfl (Nat.le_of_ble_eq_true rfl) dX3_copy_9 (fun r_2 H locs hq hw hS => ?_)
      replace hE := cs_letE hq hE
      clear hq
      refine lv_icmp_ge (tgt := 30) hx hb dX3_copy_12 (by decide) (fun c_3 => ?_) (fun c_3 => ?_)
      · replace hE := cs_T c_3 hE
        subst hE
        exact hk _ _ _ hw hS (lv_sub hl [0, 1, 2] rfl)
      · replace hE := cs_F c_3 hE
        refine lv_aload_n hx hb dX3_copy_15 rfl (lv_at hl 1 rfl) ?_
        refine lv_aload_n hx hb dX3_copy_16 rfl (lv_at hl 2 rfl) ?_
        refine lv_iload_n hx hb dX3_copy_17 rfl (lv_at hl 0 rfl) ?_
        refine cs_vir hF (c_X3_at l D cy ad S j1 v2 hj1) (cwV 1 hts g_X3_27 rfl rfl rfl kk_X3_at ⟨Nat.le_of_ble_eq_true rfl, Nat.le_of_ble_eq_true rfl⟩) (cs_recvR hK hw hj1) hw hK hS rfl hl.1 [.ref (ad (6 + 2 * j))] rfl (Nat.le_of_ble_eq_true rfl) dX3_copy_18 (fun r_4 H locs hq hw hS => ?_)
        replace hE := cs_letE hq hE
        clear hq
        refine cs_vv hF (c_X3_append l D cy ad S j r_4 hj (nj)) (cwV 1 hts g_X3_31 rfl rfl rfl kk_X3_append ⟨Nat.le_of_ble_eq_true rfl, Nat.le_of_ble_eq_true rfl⟩) (cs_recvR hK hw hj) hw hK hS rfl hl.1 [] rfl (Nat.le_of_ble_eq_true rfl) dX3_copy_21 (fun S_5 H locs hq hw hS => ?_)
        replace hE := cs_letE hq hE
        clear hq
        refine lv_iinc (v := v2 + 1) (lv' := [(2, .int (v2 + 1)), (0, .ref (ad (6 + 2 * j))), (1, .ref (ad (6 + 2 * j1)))]) hx hb dX3_copy_24 hl (k := 0) rfl rfl (by decide) rfl (fun ls hl => ?_)
        refine lv_goto (tgt := 7) hx hb dX3_copy_27 (by decide) ?_
        exact ih (v2 + 1) S_5 _ _ hw hS _ (lv_sub hl [0, 1, 2] rfl) (cs_up hm.1 c_3) hE
  exact lp cs_N 0 S_1 _ _ hw hS _ (lv_sub hl [0, 1, 2] rfl) (cs_up0 0) hq.symm
theorem kk_X3_copy : yX3_copy.cls = RX3 ∧ yX3_copy.cls ≠ "java/lang/invoke/MethodHandle" ∧ yX3_copy.cls ≠ "java/lang/invoke/VarHandle" ∧ (parseMethodDescriptor yX3_copy.desc).map (fun d => d.parameters.length) = some 1 := by decide +kernel
end
section
theorem g_X0_23 : GoodIn cs_WS (wsV RX0 23 RX3 yX3_length (cs_ws yX3_length cX3_length 1 (some .int))) := cs_goodV q_19 q_20 q_21 q_10 q_15
def m_X0_unsafeWrites (S : cs_St) : Int32 := cs_let (m_X3_length S 4) (fun r_1 => (r_1 - (S.2 7)))
set_option maxHeartbeats 4000000 in
set_option maxRecDepth 100000 in
theorem c_X0_unsafeWrites (l : Launch) (D : va_G) (cy : ClassId) (ad : Nat → Nat) (S : cs_St) : Met l yX0_unsafeWrites (cs_ws yX0_unsafeWrites cX0_unsafeWrites 1 (some .int)) (cs_rm 1 20) (cs_Pc D cy ad [.ref (ad 1)] S) (cs_Qi D cy ad (fun r S1 => r = m_X0_unsafeWrites S ∧ S1 = S)) 0 0 (cs_A ad) := by
  refine cs_of RX0 (by decide) rfl (Nat.le_of_ble_eq_true rfl) ?_
  intro p e s m below meth c hF hr hlk hw hK ls hl
  obtain ⟨hx, hb, hml, hown, hts⟩ := id hF
  have hS : va_S (cs_A ad) s.heap s.heap [] := va_S.rf
  have hl : lv_has ls 1 [(0, .ref (ad 1))] := hl
  generalize hRes : m_X0_unsafeWrites S = Res
  unfold m_X0_unsafeWrites at hRes
  refine lv_aload_n hx hb dX0_unsafeWrites_0 rfl (lv_at hl 0 rfl) ?_
  refine cs_get (C := RX0) (T := TX0) (N := 3) hF in_X0 hw hK 1 rfl rfl 1 (by decide) q_12 rfl dX0_unsafeWrites_1 ?_
  refine cs_vir hF (c_X3_length l D cy ad S 4 (by decide)) (cwV 0 hts g_X0_23 rfl rfl rfl kk_X3_length ⟨Nat.le_of_ble_eq_true rfl, Nat.le_of_ble_eq_true rfl⟩) (cs_recvR hK hw (by decide)) hw hK hS rfl hl.1 [] rfl (Nat.le_of_ble_eq_true rfl) dX0_unsafeWrites_4 (fun r_1 H locs hq hw hS => ?_)
  replace hRes := cs_letE hq hRes
  clear hq
  refine lv_aload_n hx hb dX0_unsafeWrites_7 rfl (lv_at hl 0 rfl) ?_
  refine cs_get (C := RX0) (T := TX0) (N := 3) hF in_X0 hw hK 1 rfl rfl 2 (by decide) q_18 rfl dX0_unsafeWrites_8 ?_
  refine lv_isub hx hb dX0_unsafeWrites_11 ?_
  exact cs_iret hF hr hlk hw hK hS dX0_unsafeWrites_12 ⟨hRes, rfl⟩
theorem kk_X0_unsafeWrites : yX0_unsafeWrites.cls = RX0 ∧ yX0_unsafeWrites.cls ≠ "java/lang/invoke/MethodHandle" ∧ yX0_unsafeWrites.cls ≠ "java/lang/invoke/VarHandle" ∧ (parseMethodDescriptor yX0_unsafeWrites.desc).map (fun d => d.parameters.length) = some 0 := by decide +kernel
def m_X0_makeSafe (S : cs_St) : cs_St := cs_let (m_X3_length S 4) (fun r_1 => cs_let (cs_sS S 7 r_1) (fun S_2 => S_2))
set_option maxHeartbeats 4000000 in
set_option maxRecDepth 100000 in
theorem c_X0_makeSafe (l : Launch) (D : va_G) (cy : ClassId) (ad : Nat → Nat) (S : cs_St) : Met l yX0_makeSafe (cs_ws yX0_makeSafe cX0_makeSafe 1 none) (cs_rm 1 20) (cs_Pc D cy ad [.ref (ad 1)] S) (cs_Qv D cy ad (fun S1 => S1 = m_X0_makeSafe S)) 0 0 (cs_A ad) := by
  refine cs_of RX0 (by decide) rfl (Nat.le_of_ble_eq_true rfl) ?_
  intro p e s m below meth c hF hr hlk hw hK ls hl
  obtain ⟨hx, hb, hml, hown, hts⟩ := id hF
  have hS : va_S (cs_A ad) s.heap s.heap [] := va_S.rf
  have hl : lv_has ls 1 [(0, .ref (ad 1))] := hl
  generalize hRes : m_X0_makeSafe S = Res
  unfold m_X0_makeSafe at hRes
  refine lv_aload_n hx hb dX0_makeSafe_0 rfl (lv_at hl 0 rfl) ?_
  refine lv_aload_n hx hb dX0_makeSafe_1 rfl (lv_at hl 0 rfl) ?_
  refine cs_get (C := RX0) (T := TX0) (N := 3) hF in_X0 hw hK 1 rfl rfl 1 (by decide) q_12 rfl dX0_makeSafe_2 ?_
  refine cs_vir hF (c_X3_length l D cy ad S 4 (by decide)) (cwV 0 hts g_X0_23 rfl rfl rfl kk_X3_length ⟨Nat.le_of_ble_eq_true rfl, Nat.le_of_ble_eq_true rfl⟩) (cs_recvR hK hw (by decide)) hw hK hS rfl hl.1 [.ref (ad 1)] rfl (Nat.le_of_ble_eq_true rfl) dX0_makeSafe_5 (fun r_1 H locs hq hw hS => ?_)
  replace hRes := cs_letE hq hRes
  clear hq
  refine cs_put (C := RX0) (T := TX0) (N := 3) hF in_X0 tyX0 tyX0_ok nmX0 hw hK hS 1 rfl rfl 2 (by decide) q_18 rfl (by decide +kernel) (Nat.le_of_ble_eq_true rfl) (cs_sS S 7 r_1) rfl (cs_sS_ok hw.1 (fun h => absurd h (by decide))) dX0_makeSafe_8 (fun H locs hw hS => ?_)
  obtain ⟨S_2, hq⟩ : ∃ z, z = cs_sS S 7 r_1 := ⟨_, rfl⟩
  rw [← hq] at hw
  replace hRes := cs_letE hq hRes
  clear hq
  exact cs_vret hF hr hlk hw hK hS dX0_makeSafe_11 hRes
theorem kk_X0_makeSafe : yX0_makeSafe.cls = RX0 ∧ yX0_makeSafe.cls ≠ "java/lang/invoke/MethodHandle" ∧ yX0_makeSafe.cls ≠ "java/lang/invoke/VarHandle" ∧ (parseMethodDescriptor yX0_makeSafe.desc).map (fun d => d.parameters.length) = some 0 := by decide +kernel
theorem g_X0_31 : GoodIn cs_WS (wsV RX0 31 RX3 yX3_cut (cs_ws yX3_cut cX3_cut 3 none)) := cs_goodV q_29 q_30 q_31 q_10 q_23
def m_X0_loseUnsafe (S : cs_St) : cs_St := cs_let (m_X3_length S 4) (fun r_1 => cs_let (m_X3_cut S 4 (S.2 7) r_1) (fun S_2 => S_2))
set_option maxHeartbeats 4000000 in
set_option maxRecDepth 100000 in
theorem c_X0_loseUnsafe (l : Launch) (D : va_G) (cy : ClassId) (ad : Nat → Nat) (S : cs_St) : Met l yX0_loseUnsafe (cs_ws yX0_loseUnsafe cX0_loseUnsafe 1 none) (cs_rm 2 82) (cs_Pc D cy ad [.ref (ad 1)] S) (cs_Qv D cy ad (fun S1 => S1 = m_X0_loseUnsafe S)) 0 0 (cs_A ad) := by
  refine cs_of RX0 (by decide) rfl (Nat.le_of_ble_eq_true rfl) ?_
  intro p e s m below meth c hF hr hlk hw hK ls hl
  obtain ⟨hx, hb, hml, hown, hts⟩ := id hF
  have hS : va_S (cs_A ad) s.heap s.heap [] := va_S.rf
  have hl : lv_has ls 1 [(0, .ref (ad 1))] := hl
  generalize hRes : m_X0_loseUnsafe S = Res
  unfold m_X0_loseUnsafe at hRes
  refine lv_aload_n hx hb dX0_loseUnsafe_0 rfl (lv_at hl 0 rfl) ?_
  refine cs_get (C := RX0) (T := TX0) (N := 3) hF in_X0 hw hK 1 rfl rfl 1 (by decide) q_12 rfl dX0_loseUnsafe_1 ?_
  refine lv_aload_n hx hb dX0_loseUnsafe_4 rfl (lv_at hl 0 rfl) ?_
  refine cs_get (C := RX0) (T := TX0) (N := 3) hF in_X0 hw hK 1 rfl rfl 2 (by decide) q_18 rfl dX0_loseUnsafe_5 ?_
  refine lv_aload_n hx hb dX0_loseUnsafe_8 rfl (lv_at hl 0 rfl) ?_
  refine cs_get (C := RX0) (T := TX0) (N := 3) hF in_X0 hw hK 1 rfl rfl 1 (by decide) q_12 rfl dX0_loseUnsafe_9 ?_
  refine cs_vir hF (c_X3_length l D cy ad S 4 (by decide)) (cwV 0 hts g_X0_23 rfl rfl rfl kk_X3_length ⟨Nat.le_of_ble_eq_true rfl, Nat.le_of_ble_eq_true rfl⟩) (cs_recvR hK hw (by decide)) hw hK hS rfl hl.1 [.int (S.2 7), .ref (ad 14)] rfl (Nat.le_of_ble_eq_true rfl) dX0_loseUnsafe_12 (fun r_1 H locs hq hw hS => ?_)
  replace hRes := cs_letE hq hRes
  clear hq
  refine cs_vv hF (c_X3_cut l D cy ad S 4 (S.2 7) r_1 (by decide)) (cwV 2 hts g_X0_31 rfl rfl rfl kk_X3_cut ⟨Nat.le_of_ble_eq_true rfl, Nat.le_of_ble_eq_true rfl⟩) (cs_recvR hK hw (by decide)) hw hK hS rfl hl.1 [] rfl (Nat.le_of_ble_eq_true rfl) dX0_loseUnsafe_15 (fun S_2 H locs hq hw hS => ?_)
  replace hRes := cs_letE hq hRes
  clear hq
  exact cs_vret hF hr hlk hw hK hS dX0_loseUnsafe_18 hRes
theorem kk_X0_loseUnsafe : yX0_loseUnsafe.cls = RX0 ∧ yX0_loseUnsafe.cls ≠ "java/lang/invoke/MethodHandle" ∧ yX0_loseUnsafe.cls ≠ "java/lang/invoke/VarHandle" ∧ (parseMethodDescriptor yX0_loseUnsafe.desc).map (fun d => d.parameters.length) = some 0 := by decide +kernel
theorem g_X0_35 : GoodIn cs_WS (wsV RX0 35 RX3 yX3_empty (cs_ws yX3_empty cX3_empty 1 none)) := cs_goodV q_34 q_35 q_36 q_10 q_32
def m_X0_empty (S : cs_St) : cs_St := cs_let (m_X3_empty S 3) (fun S_1 => cs_let (m_X3_empty S_1 4) (fun S_2 => cs_let (cs_sS S_2 7 0) (fun S_3 => S_3)))
set_option maxHeartbeats 4000000 in
set_option maxRecDepth 100000 in
theorem c_X0_empty (l : Launch) (D : va_G) (cy : ClassId) (ad : Nat → Nat) (S : cs_St) : Met l yX0_empty (cs_ws yX0_empty cX0_empty 1 none) (cs_rm 1 20) (cs_Pc D cy ad [.ref (ad 1)] S) (cs_Qv D cy ad (fun S1 => S1 = m_X0_empty S)) 0 0 (cs_A ad) := by
  refine cs_of RX0 (by decide) rfl (Nat.le_of_ble_eq_true rfl) ?_
  intro p e s m below meth c hF hr hlk hw hK ls hl
  obtain ⟨hx, hb, hml, hown, hts⟩ := id hF
  have hS : va_S (cs_A ad) s.heap s.heap [] := va_S.rf
  have hl : lv_has ls 1 [(0, .ref (ad 1))] := hl
  generalize hRes : m_X0_empty S = Res
  unfold m_X0_empty at hRes
  refine lv_aload_n hx hb dX0_empty_0 rfl (lv_at hl 0 rfl) ?_
  refine cs_get (C := RX0) (T := TX0) (N := 3) hF in_X0 hw hK 1 rfl rfl 0 (by decide) q_11 rfl dX0_empty_1 ?_
  refine cs_vv hF (c_X3_empty l D cy ad S 3 (by decide)) (cwV 0 hts g_X0_35 rfl rfl rfl kk_X3_empty ⟨Nat.le_of_ble_eq_true rfl, Nat.le_of_ble_eq_true rfl⟩) (cs_recvR hK hw (by decide)) hw hK hS rfl hl.1 [] rfl (Nat.le_of_ble_eq_true rfl) dX0_empty_4 (fun S_1 H locs hq hw hS => ?_)
  replace hRes := cs_letE hq hRes
  clear hq
  refine lv_aload_n hx hb dX0_empty_7 rfl (lv_at hl 0 rfl) ?_
  refine cs_get (C := RX0) (T := TX0) (N := 3) hF in_X0 hw hK 1 rfl rfl 1 (by decide) q_12 rfl dX0_empty_8 ?_
  refine cs_vv hF (c_X3_empty l D cy ad S_1 4 (by decide)) (cwV 0 hts g_X0_35 rfl rfl rfl kk_X3_empty ⟨Nat.le_of_ble_eq_true rfl, Nat.le_of_ble_eq_true rfl⟩) (cs_recvR hK hw (by decide)) hw hK hS rfl hl.1 [] rfl (Nat.le_of_ble_eq_true rfl) dX0_empty_11 (fun S_2 H locs hq hw hS => ?_)
  replace hRes := cs_letE hq hRes
  clear hq
  refine lv_aload_n hx hb dX0_empty_14 rfl (lv_at hl 0 rfl) ?_
  refine lv_iconst (v := 0) hx hb dX0_empty_15 (by decide) ?_
  refine cs_put (C := RX0) (T := TX0) (N := 3) hF in_X0 tyX0 tyX0_ok nmX0 hw hK hS 1 rfl rfl 2 (by decide) q_18 rfl (by decide +kernel) (Nat.le_of_ble_eq_true rfl) (cs_sS S_2 7 0) rfl (cs_sS_ok hw.1 (fun h => absurd h (by decide))) dX0_empty_16 (fun H locs hw hS => ?_)
  obtain ⟨S_3, hq⟩ : ∃ z, z = cs_sS S_2 7 0 := ⟨_, rfl⟩
  rw [← hq] at hw
  replace hRes := cs_letE hq hRes
  clear hq
  exact cs_vret hF hr hlk hw hK hS dX0_empty_19 hRes
theorem kk_X0_empty : yX0_empty.cls = RX0 ∧ yX0_empty.cls ≠ "java/lang/invoke/MethodHandle" ∧ yX0_empty.cls ≠ "java/lang/invoke/VarHandle" ∧ (parseMethodDescriptor yX0_empty.desc).map (fun d => d.parameters.length) = some 0 := by decide +kernel
theorem g_X1_26 : GoodIn cs_WS (wsV RX1 26 RX3 yX3_length (cs_ws yX3_length cX3_length 1 (some .int))) := cs_goodV q_45 q_20 q_21 q_10 q_15
def m_X1_isFull (S : cs_St) : Int32 := cs_let (m_X3_length S 7) (fun r_1 => (if r_1 < 512 then 0 else 1))
set_option maxHeartbeats 4000000 in
set_option maxRecDepth 100000 in
theorem c_X1_isFull (l : Launch) (D : va_G) (cy : ClassId) (ad : Nat → Nat) (S : cs_St) : Met l yX1_isFull (cs_ws yX1_isFull cX1_isFull 1 (some .boolean)) (cs_rm 1 20) (cs_Pc D cy ad [.ref (ad 2)] S) (cs_Qi D cy ad (fun r S1 => r = m_X1_isFull S ∧ S1 = S)) 0 0 (cs_A ad) := by
  refine cs_of RX1 (by decide) rfl (Nat.le_of_ble_eq_true rfl) ?_
  intro p e s m below meth c hF hr hlk hw hK ls hl
  obtain ⟨hx, hb, hml, hown, hts⟩ := id hF
  have hS : va_S (cs_A ad) s.heap s.heap [] := va_S.rf
  have hl : lv_has ls 1 [(0, .ref (ad 2))] := hl
  generalize hRes : m_X1_isFull S = Res
  unfold m_X1_isFull at hRes
  refine lv_aload_n hx hb dX1_isFull_0 rfl (lv_at hl 0 rfl) ?_
  refine cs_get (C := RX1) (T := TX1) (N := 3) hF in_X1 hw hK 2 rfl rfl 2 (by decide) q_42 rfl dX1_isFull_1 ?_
  refine cs_vir hF (c_X3_length l D cy ad S 7 (by decide)) (cwV 0 hts g_X1_26 rfl rfl rfl kk_X3_length ⟨Nat.le_of_ble_eq_true rfl, Nat.le_of_ble_eq_true rfl⟩) (cs_recvR hK hw (by decide)) hw hK hS rfl hl.1 [] rfl (Nat.le_of_ble_eq_true rfl) dX1_isFull_4 (fun r_1 H locs hq hw hS => ?_)
  replace hRes := cs_letE hq hRes
  clear hq
  refine lv_sipush (v := 512) hx hb dX1_isFull_7 (by decide) ?_
  refine lv_icmp_lt (tgt := 17) hx hb dX1_isFull_10 (by decide) (fun c_2 => ?_) (fun c_2 => ?_)
  · replace hRes := cs_T c_2 hRes
    refine lv_iconst (v := 0) hx hb dX1_isFull_17 (by decide) ?_
    exact cs_zret hF hr hlk hw hK hS dX1_isFull_18 ⟨hRes, rfl⟩
  · replace hRes := cs_F c_2 hRes
    refine lv_iconst (v := 1) hx hb dX1_isFull_13 (by decide) ?_
    refine lv_goto (tgt := 18) hx hb dX1_isFull_14 (by decide) ?_
    exact cs_zret hF hr hlk hw hK hS dX1_isFull_18 ⟨hRes, rfl⟩
theorem kk_X1_isFull : yX1_isFull.cls = RX1 ∧ yX1_isFull.cls ≠ "java/lang/invoke/MethodHandle" ∧ yX1_isFull.cls ≠ "java/lang/invoke/VarHandle" ∧ (parseMethodDescriptor yX1_isFull.desc).map (fun d => d.parameters.length) = some 0 := by decide +kernel
def m_X1_newest (S : cs_St) : Int32 := cs_let (m_X3_length S 7) (fun r_1 => r_1)
set_option maxHeartbeats 4000000 in
set_option maxRecDepth 100000 in
theorem c_X1_newest (l : Launch) (D : va_G) (cy : ClassId) (ad : Nat → Nat) (S : cs_St) : Met l yX1_newest (cs_ws yX1_newest cX1_newest 1 (some .int)) (cs_rm 1 20) (cs_Pc D cy ad [.ref (ad 2)] S) (cs_Qi D cy ad (fun r S1 => r = m_X1_newest S ∧ S1 = S)) 0 0 (cs_A ad) := by
  refine cs_of RX1 (by decide) rfl (Nat.le_of_ble_eq_true rfl) ?_
  intro p e s m below meth c hF hr hlk hw hK ls hl
  obtain ⟨hx, hb, hml, hown, hts⟩ := id hF
  have hS : va_S (cs_A ad) s.heap s.heap [] := va_S.rf
  have hl : lv_has ls 1 [(0, .ref (ad 2))] := hl
  generalize hRes : m_X1_newest S = Res
  unfold m_X1_newest at hRes
  refine lv_aload_n hx hb dX1_newest_0 rfl (lv_at hl 0 rfl) ?_
  refine cs_get (C := RX1) (T := TX1) (N := 3) hF in_X1 hw hK 2 rfl rfl 2 (by decide) q_42 rfl dX1_newest_1 ?_
  refine cs_vir hF (c_X3_length l D cy ad S 7 (by decide)) (cwV 0 hts g_X1_26 rfl rfl rfl kk_X3_length ⟨Nat.le_of_ble_eq_true rfl, Nat.le_of_ble_eq_true rfl⟩) (cs_recvR hK hw (by decide)) hw hK hS rfl hl.1 [] rfl (Nat.le_of_ble_eq_true rfl) dX1_newest_4 (fun r_1 H locs hq hw hS => ?_)
  replace hRes := cs_letE hq hRes
  clear hq
  exact cs_iret hF hr hlk hw hK hS dX1_newest_7 ⟨hRes, rfl⟩
theorem kk_X1_newest : yX1_newest.cls = RX1 ∧ yX1_newest.cls ≠ "java/lang/invoke/MethodHandle" ∧ yX1_newest.cls ≠ "java/lang/invoke/VarHandle" ∧ (parseMethodDescriptor yX1_newest.desc).map (fun d => d.parameters.length) = some 0 := by decide +kernel
theorem g_X1_30 : GoodIn cs_WS (wsV RX1 30 RX3 yX3_at (cs_ws yX3_at cX3_at 2 (some .int))) := cs_goodV q_49 q_50 q_51 q_10 q_47
def m_X1_key (S : cs_St) (a1 : Int32) : Int32 := cs_let (m_X3_at S 5 a1) (fun r_1 => r_1)
set_option maxHeartbeats 4000000 in
set_option maxRecDepth 100000 in
theorem c_X1_key (l : Launch) (D : va_G) (cy : ClassId) (ad : Nat → Nat) (S : cs_St) (a1 : Int32) : Met l yX1_key (cs_ws yX1_key cX1_key 2 (some .int)) (cs_rm 1 21) (cs_Pc D cy ad [.ref (ad 2), .int a1] S) (cs_Qi D cy ad (fun r S1 => r = m_X1_key S a1 ∧ S1 = S)) 0 0 (cs_A ad) := by
  refine cs_of RX1 (by decide) rfl (Nat.le_of_ble_eq_true rfl) ?_
  intro p e s m below meth c hF hr hlk hw hK ls hl
  obtain ⟨hx, hb, hml, hown, hts⟩ := id hF
  have hS : va_S (cs_A ad) s.heap s.heap [] := va_S.rf
  have hl : lv_has ls 2 [(0, .ref (ad 2)), (1, .int a1)] := hl
  generalize hRes : m_X1_key S a1 = Res
  unfold m_X1_key at hRes
  refine lv_aload_n hx hb dX1_key_0 rfl (lv_at hl 0 rfl) ?_
  refine cs_get (C := RX1) (T := TX1) (N := 3) hF in_X1 hw hK 2 rfl rfl 0 (by decide) q_40 rfl dX1_key_1 ?_
  refine lv_iload_n hx hb dX1_key_4 rfl (lv_at hl 1 rfl) ?_
  refine cs_vir hF (c_X3_at l D cy ad S 5 a1 (by decide)) (cwV 1 hts g_X1_30 rfl rfl rfl kk_X3_at ⟨Nat.le_of_ble_eq_true rfl, Nat.le_of_ble_eq_true rfl⟩) (cs_recvR hK hw (by decide)) hw hK hS rfl hl.1 [] rfl (Nat.le_of_ble_eq_true rfl) dX1_key_5 (fun r_1 H locs hq hw hS => ?_)
  replace hRes := cs_letE hq hRes
  clear hq
  exact cs_iret hF hr hlk hw hK hS dX1_key_8 ⟨hRes, rfl⟩
theorem kk_X1_key : yX1_key.cls = RX1 ∧ yX1_key.cls ≠ "java/lang/invoke/MethodHandle" ∧ yX1_key.cls ≠ "java/lang/invoke/VarHandle" ∧ (parseMethodDescriptor yX1_key.desc).map (fun d => d.parameters.length) = some 1 := by decide +kernel
def m_X1_value (S : cs_St) (a1 : Int32) : Int32 := cs_let (m_X3_at S 6 a1) (fun r_1 => r_1)
set_option maxHeartbeats 4000000 in
set_option maxRecDepth 100000 in
theorem c_X1_value (l : Launch) (D : va_G) (cy : ClassId) (ad : Nat → Nat) (S : cs_St) (a1 : Int32) : Met l yX1_value (cs_ws yX1_value cX1_value 2 (some .int)) (cs_rm 1 21) (cs_Pc D cy ad [.ref (ad 2), .int a1] S) (cs_Qi D cy ad (fun r S1 => r = m_X1_value S a1 ∧ S1 = S)) 0 0 (cs_A ad) := by
  refine cs_of RX1 (by decide) rfl (Nat.le_of_ble_eq_true rfl) ?_
  intro p e s m below meth c hF hr hlk hw hK ls hl
  obtain ⟨hx, hb, hml, hown, hts⟩ := id hF
  have hS : va_S (cs_A ad) s.heap s.heap [] := va_S.rf
  have hl : lv_has ls 2 [(0, .ref (ad 2)), (1, .int a1)] := hl
  generalize hRes : m_X1_value S a1 = Res
  unfold m_X1_value at hRes
  refine lv_aload_n hx hb dX1_value_0 rfl (lv_at hl 0 rfl) ?_
  refine cs_get (C := RX1) (T := TX1) (N := 3) hF in_X1 hw hK 2 rfl rfl 1 (by decide) q_41 rfl dX1_value_1 ?_
  refine lv_iload_n hx hb dX1_value_4 rfl (lv_at hl 1 rfl) ?_
  refine cs_vir hF (c_X3_at l D cy ad S 6 a1 (by decide)) (cwV 1 hts g_X1_30 rfl rfl rfl kk_X3_at ⟨Nat.le_of_ble_eq_true rfl, Nat.le_of_ble_eq_true rfl⟩) (cs_recvR hK hw (by decide)) hw hK hS rfl hl.1 [] rfl (Nat.le_of_ble_eq_true rfl) dX1_value_5 (fun r_1 H locs hq hw hS => ?_)
  replace hRes := cs_letE hq hRes
  clear hq
  exact cs_iret hF hr hlk hw hK hS dX1_value_8 ⟨hRes, rfl⟩
theorem kk_X1_value : yX1_value.cls = RX1 ∧ yX1_value.cls ≠ "java/lang/invoke/MethodHandle" ∧ yX1_value.cls ≠ "java/lang/invoke/VarHandle" ∧ (parseMethodDescriptor yX1_value.desc).map (fun d => d.parameters.length) = some 1 := by decide +kernel
def m_X1_isStone (S : cs_St) (a1 : Int32) : Int32 := cs_let (m_X3_at S 6 a1) (fun r_1 => (if r_1 = (-1) then 1 else 0))
set_option maxHeartbeats 4000000 in
set_option maxRecDepth 100000 in
theorem c_X1_isStone (l : Launch) (D : va_G) (cy : ClassId) (ad : Nat → Nat) (S : cs_St) (a1 : Int32) : Met l yX1_isStone (cs_ws yX1_isStone cX1_isStone 2 (some .boolean)) (cs_rm 1 21) (cs_Pc D cy ad [.ref (ad 2), .int a1] S) (cs_Qi D cy ad (fun r S1 => r = m_X1_isStone S a1 ∧ S1 = S)) 0 0 (cs_A ad) := by
  refine cs_of RX1 (by decide) rfl (Nat.le_of_ble_eq_true rfl) ?_
  intro p e s m below meth c hF hr hlk hw hK ls hl
  obtain ⟨hx, hb, hml, hown, hts⟩ := id hF
  have hS : va_S (cs_A ad) s.heap s.heap [] := va_S.rf
  have hl : lv_has ls 2 [(0, .ref (ad 2)), (1, .int a1)] := hl
  generalize hRes : m_X1_isStone S a1 = Res
  unfold m_X1_isStone at hRes
  refine lv_aload_n hx hb dX1_isStone_0 rfl (lv_at hl 0 rfl) ?_
  refine cs_get (C := RX1) (T := TX1) (N := 3) hF in_X1 hw hK 2 rfl rfl 1 (by decide) q_41 rfl dX1_isStone_1 ?_
  refine lv_iload_n hx hb dX1_isStone_4 rfl (lv_at hl 1 rfl) ?_
  refine cs_vir hF (c_X3_at l D cy ad S 6 a1 (by decide)) (cwV 1 hts g_X1_30 rfl rfl rfl kk_X3_at ⟨Nat.le_of_ble_eq_true rfl, Nat.le_of_ble_eq_true rfl⟩) (cs_recvR hK hw (by decide)) hw hK hS rfl hl.1 [] rfl (Nat.le_of_ble_eq_true rfl) dX1_isStone_5 (fun r_1 H locs hq hw hS => ?_)
  replace hRes := cs_letE hq hRes
  clear hq
  refine lv_iconst (v := -1) hx hb dX1_isStone_8 (by decide) ?_
  refine lv_icmp_ne (tgt := 16) hx hb dX1_isStone_9 (by decide) (fun c_2 => ?_) (fun c_2 => ?_)
  · replace hRes := cs_F c_2 hRes
    refine lv_iconst (v := 0) hx hb dX1_isStone_16 (by decide) ?_
    exact cs_zret hF hr hlk hw hK hS dX1_isStone_17 ⟨hRes, rfl⟩
  · replace hRes := cs_T c_2 hRes
    refine lv_iconst (v := 1) hx hb dX1_isStone_12 (by decide) ?_
    refine lv_goto (tgt := 17) hx hb dX1_isStone_13 (by decide) ?_
    exact cs_zret hF hr hlk hw hK hS dX1_isStone_17 ⟨hRes, rfl⟩
theorem kk_X1_isStone : yX1_isStone.cls = RX1 ∧ yX1_isStone.cls ≠ "java/lang/invoke/MethodHandle" ∧ yX1_isStone.cls ≠ "java/lang/invoke/VarHandle" ∧ (parseMethodDescriptor yX1_isStone.desc).map (fun d => d.parameters.length) = some 1 := by decide +kernel
theorem g_X1_34 : GoodIn cs_WS (wsV RX1 34 RX3 yX3_write (cs_ws yX3_write cX3_write 3 none)) := cs_goodV q_57 q_58 q_59 q_10 q_54
theorem g_X1_38 : GoodIn cs_WS (wsV RX1 38 RX3 yX3_open (cs_ws yX3_open cX3_open 3 none)) := cs_goodV q_60 q_61 q_62 q_10 q_55
def m_X1_note_L13 (S : cs_St) (u3 : Int32) (u1 : Int32) (u2 : Int32) : Nat → Int32 → Int32
  | 0, _ => 0
  | n + 1, v4 => cs_let (m_X3_length S 7) (fun r_2 => (if r_2 ≤ v4 then v4 else cs_let (m_X3_at S 7 v4) (fun r_4 => cs_let (m_X3_at S 5 r_4) (fun r_5 => (if u1 ≤ r_5 then v4 else m_X1_note_L13 S u3 u1 u2 n (v4 + 1))))))
theorem m_X1_note_L13_s {S : cs_St} {u3 : Int32} {u1 : Int32} {u2 : Int32} {n : Nat} {v4 : Int32} : m_X1_note_L13 S u3 u1 u2 (n + 1) v4 = cs_let (m_X3_length S 7) (fun r_2 => (if r_2 ≤ v4 then v4 else cs_let (m_X3_at S 7 v4) (fun r_4 => cs_let (m_X3_at S 5 r_4) (fun r_5 => (if u1 ≤ r_5 then v4 else m_X1_note_L13 S u3 u1 u2 n (v4 + 1)))))) := rfl
def m_X1_note (S : cs_St) (a1 : Int32) (a2 : Int32) : Int32 × cs_St := cs_let (m_X3_length S 7) (fun r_1 => cs_let (m_X1_note_L13 S (r_1 + 1) a1 a2 cs_N 0) (fun T_7 => cs_let (m_X3_write S 5 (r_1 + 1) a1) (fun S_8 => cs_let (m_X3_write S_8 6 (r_1 + 1) a2) (fun S_9 => cs_let (m_X3_open S_9 7 T_7 1) (fun S_10 => cs_let (m_X3_write S_10 7 T_7 (r_1 + 1)) (fun S_11 => ((r_1 + 1), S_11)))))))
set_option maxHeartbeats 4000000 in
set_option maxRecDepth 100000 in
theorem c_X1_note (l : Launch) (D : va_G) (cy : ClassId) (ad : Nat → Nat) (S : cs_St) (a1 : Int32) (a2 : Int32) : Met l yX1_note (cs_ws yX1_note cX1_note 5 (some .int)) (cs_rm 2 82) (cs_Pc D cy ad [.ref (ad 2), .int a1, .int a2] S) (cs_Qi D cy ad (fun r S1 => r = (m_X1_note S a1 a2).1 ∧ S1 = (m_X1_note S a1 a2).2)) 0 0 (cs_A ad) := by
  refine cs_of RX1 (by decide) rfl (Nat.le_of_ble_eq_true rfl) ?_
  intro p e s m below meth c hF hr hlk hw hK ls hl
  obtain ⟨hx, hb, hml, hown, hts⟩ := id hF
  have hS : va_S (cs_A ad) s.heap s.heap [] := va_S.rf
  have hl : lv_has ls 5 [(0, .ref (ad 2)), (1, .int a1), (2, .int a2)] := hl
  generalize hRes : m_X1_note S a1 a2 = Res
  unfold m_X1_note at hRes
  refine lv_aload_n hx hb dX1_note_0 rfl (lv_at hl 0 rfl) ?_
  refine cs_get (C := RX1) (T := TX1) (N := 3) hF in_X1 hw hK 2 rfl rfl 2 (by decide) q_42 rfl dX1_note_1 ?_
  refine cs_vir hF (c_X3_length l D cy ad S 7 (by decide)) (cwV 0 hts g_X1_26 rfl rfl rfl kk_X3_length ⟨Nat.le_of_ble_eq_true rfl, Nat.le_of_ble_eq_true rfl⟩) (cs_recvR hK hw (by decide)) hw hK hS rfl hl.1 [] rfl (Nat.le_of_ble_eq_true rfl) dX1_note_4 (fun r_1 H locs hq hw hS => ?_)
  replace hRes := cs_letE hq hRes
  clear hq
  refine lv_iconst (v := 1) hx hb dX1_note_7 (by decide) ?_
  refine lv_iadd hx hb dX1_note_8 ?_
  refine lv_istore_n (lv' := [(3, .int (r_1 + 1)), (0, .ref (ad 2)), (1, .int a1), (2, .int a2)]) hx hb dX1_note_9 rfl hl (by decide) rfl (fun ls hl => ?_)
  refine lv_iconst (v := 0) hx hb dX1_note_10 (by decide) ?_
  refine lv_istore (lv' := [(4, .int 0), (3, .int (r_1 + 1)), (0, .ref (ad 2)), (1, .int a1), (2, .int a2)]) hx hb dX1_note_11 hl (by decide) rfl (fun ls hl => ?_)
  -- the loop at 13
  obtain ⟨T_7, hq⟩ : ∃ z, z = m_X1_note_L13 S (r_1 + 1) a1 a2 cs_N 0 := ⟨_, rfl⟩
  replace hRes := cs_letE hq hRes
  have hk : ∀ (H : Heap) (locs : List Loc) (ls : Array Slot), cs_w D cy ad S H → va_S (cs_A ad) s.heap H locs → lv_has ls 5 [(4, .int T_7), (3, .int (r_1 + 1)), (0, .ref (ad 2)), (1, .int a1), (2, .int a2)] → W p l e (cs_rm 2 82) s m ([.ref (ad 2), .int a1, .int a2]).toArray below meth c H locs 0 0 (MQ below (cs_Qi D cy ad (fun r S1 => r = Res.1 ∧ S1 = Res.2)) ([.ref (ad 2), .int a1, .int a2]).toArray s 0 0 (cs_A ad)) (F0 m 51 ls []) := by
    intro H locs ls hw hS hl
    refine lv_aload_n hx hb dX1_note_51 rfl (lv_at hl 2 rfl) ?_
    refine cs_get (C := RX1) (T := TX1) (N := 3) hF in_X1 hw hK 2 rfl rfl 0 (by decide) q_40 rfl dX1_note_52 ?_
    refine lv_iload_n hx hb dX1_note_55 rfl (lv_at hl 1 rfl) ?_
    refine lv_iload_n hx hb dX1_note_56 rfl (lv_at hl 3 rfl) ?_
    refine cs_vv hF (c_X3_write l D cy ad S 5 (r_1 + 1) a1 (by decide) (fun h => absurd h (by decide))) (cwV 2 hts g_X1_34 rfl rfl rfl kk_X3_write ⟨Nat.le_of_ble_eq_true rfl, Nat.le_of_ble_eq_true rfl⟩) (cs_recvR hK hw (by decide)) hw hK hS rfl hl.1 [] rfl (Nat.le_of_ble_eq_true rfl) dX1_note_57 (fun S_8 H locs hq hw hS => ?_)
    replace hRes := cs_letE hq hRes
    clear hq
    refine lv_aload_n hx hb dX1_note_60 rfl (lv_at hl 2 rfl) ?_
    refine cs_get (C := RX1) (T := TX1) (N := 3) hF in_X1 hw hK 2 rfl rfl 1 (by decide) q_41 rfl dX1_note_61 ?_
    refine lv_iload_n hx hb dX1_note_64 rfl (lv_at hl 1 rfl) ?_
    refine lv_iload_n hx hb dX1_note_65 rfl (lv_at hl 4 rfl) ?_
    refine cs_vv hF (c_X3_write l D cy ad S_8 6 (r_1 + 1) a2 (by decide) (fun h => absurd h (by decide))) (cwV 2 hts g_X1_34 rfl rfl rfl kk_X3_write ⟨Nat.le_of_ble_eq_true rfl, Nat.le_of_ble_eq_true rfl⟩) (cs_recvR hK hw (by decide)) hw hK hS rfl hl.1 [] rfl (Nat.le_of_ble_eq_true rfl) dX1_note_66 (fun S_9 H locs hq hw hS => ?_)
    replace hRes := cs_letE hq hRes
    clear hq
    refine lv_aload_n hx hb dX1_note_69 rfl (lv_at hl 2 rfl) ?_
    refine cs_get (C := RX1) (T := TX1) (N := 3) hF in_X1 hw hK 2 rfl rfl 2 (by decide) q_42 rfl dX1_note_70 ?_
    refine lv_iload hx hb dX1_note_73 (lv_at hl 0 rfl) ?_
    refine lv_iconst (v := 1) hx hb dX1_note_75 (by decide) ?_
    refine cs_vv hF (c_X3_open l D cy ad S_9 7 T_7 1 (by decide)) (cwV 2 hts g_X1_38 rfl rfl rfl kk_X3_open ⟨Nat.le_of_ble_eq_true rfl, Nat.le_of_ble_eq_true rfl⟩) (cs_recvR hK hw (by decide)) hw hK hS rfl hl.1 [] rfl (Nat.le_of_ble_eq_true rfl) dX1_note_76 (fun S_10 H locs hq hw hS => ?_)
    replace hRes := cs_letE hq hRes
    clear hq
    refine lv_aload_n hx hb dX1_note_79 rfl (lv_at hl 2 rfl) ?_
    refine cs_get (C := RX1) (T := TX1) (N := 3) hF in_X1 hw hK 2 rfl rfl 2 (by decide) q_42 rfl dX1_note_80 ?_
    refine lv_iload hx hb dX1_note_83 (lv_at hl 0 rfl) ?_
    refine lv_iload_n hx hb dX1_note_85 rfl (lv_at hl 1 rfl) ?_
    refine cs_vv hF (c_X3_write l D cy ad S_10 7 T_7 (r_1 + 1) (by decide) (fun h => absurd h (by decide))) (cwV 2 hts g_X1_34 rfl rfl rfl kk_X3_write ⟨Nat.le_of_ble_eq_true rfl, Nat.le_of_ble_eq_true rfl⟩) (cs_recvR hK hw (by decide)) hw hK hS rfl hl.1 [] rfl (Nat.le_of_ble_eq_true rfl) dX1_note_86 (fun S_11 H locs hq hw hS => ?_)
    replace hRes := cs_letE hq hRes
    clear hq
    refine lv_iload_n hx hb dX1_note_89 rfl (lv_at hl 1 rfl) ?_
    exact cs_iret hF hr hlk hw hK hS dX1_note_90 ⟨cs_eq1 hRes, cs_eq2 hRes⟩
  have lp : ∀ (n : Nat) (v4 : Int32) (H : Heap) (locs : List Loc), cs_w D cy ad S H → va_S (cs_A ad) s.heap H locs → ∀ (ls : Array Slot), lv_has ls 5 [(4, .int v4), (3, .int (r_1 + 1)), (0, .ref (ad 2)), (1, .int a1), (2, .int a2)] → (2147483647 - v4.toInt < (n : Int) ∧ 0 < n) → m_X1_note_L13 S (r_1 + 1) a1 a2 n v4 = T_7 → W p l e (cs_rm 2 82) s m ([.ref (ad 2), .int a1, .int a2]).toArray below meth c H locs 0 0 (MQ below (cs_Qi D cy ad (fun r S1 => r = Res.1 ∧ S1 = Res.2)) ([.ref (ad 2), .int a1, .int a2]).toArray s 0 0 (cs_A ad)) (F0 m 13 ls []) := by
    intro n
    induction n with
    | zero => intro v4 H locs hw hS ls hl hm; exact absurd hm.2 (Nat.lt_irrefl 0)
    | succ n ih =>
      intro v4 H locs hw hS ls hl hm hE
      replace hE := m_X1_note_L13_s.symm.trans hE
      refine lv_iload hx hb dX1_note_13 (lv_at hl 0 rfl) ?_
      refine lv_aload_n hx hb dX1_note_15 rfl (lv_at hl 2 rfl) ?_
      refine cs_get (C := RX1) (T := TX1) (N := 3) hF in_X1 hw hK 2 rfl rfl 2 (by decide) q_42 rfl dX1_note_16 ?_
      refine cs_vir hF (c_X3_length l D cy ad S 7 (by decide)) (cwV 0 hts g_X1_26 rfl rfl rfl kk_X3_length ⟨Nat.le_of_ble_eq_true rfl, Nat.le_of_ble_eq_true rfl⟩) (cs_recvR hK hw (by decide)) hw hK hS rfl hl.1 [.int v4] rfl (Nat.le_of_ble_eq_true rfl) dX1_note_19 (fun r_2 H locs hq hw hS => ?_)
      replace hE := cs_letE hq hE
      clear hq
      refine lv_icmp_ge (tgt := 51) hx hb dX1_note_22 (by decide) (fun c_3 => ?_) (fun c_3 => ?_)
      · replace hE := cs_T c_3 hE
        subst hE
        exact hk _ _ _ hw hS (lv_sub hl [0, 1, 2, 3, 4] rfl)
      · replace hE := cs_F c_3 hE
        refine lv_aload_n hx hb dX1_note_25 rfl (lv_at hl 2 rfl) ?_
        refine cs_get (C := RX1) (T := TX1) (N := 3) hF in_X1 hw hK 2 rfl rfl 0 (by decide) q_40 rfl dX1_note_26 ?_
        refine lv_aload_n hx hb dX1_note_29 rfl (lv_at hl 2 rfl) ?_
        refine cs_get (C := RX1) (T := TX1) (N := 3) hF in_X1 hw hK 2 rfl rfl 2 (by decide) q_42 rfl dX1_note_30 ?_
        refine lv_iload hx hb dX1_note_33 (lv_at hl 0 rfl) ?_
        refine cs_vir hF (c_X3_at l D cy ad S 7 v4 (by decide)) (cwV 1 hts g_X1_30 rfl rfl rfl kk_X3_at ⟨Nat.le_of_ble_eq_true rfl, Nat.le_of_ble_eq_true rfl⟩) (cs_recvR hK hw (by decide)) hw hK hS rfl hl.1 [.ref (ad 16)] rfl (Nat.le_of_ble_eq_true rfl) dX1_note_35 (fun r_4 H locs hq hw hS => ?_)
        replace hE := cs_letE hq hE
        clear hq
        refine cs_vir hF (c_X3_at l D cy ad S 5 r_4 (by decide)) (cwV 1 hts g_X1_30 rfl rfl rfl kk_X3_at ⟨Nat.le_of_ble_eq_true rfl, Nat.le_of_ble_eq_true rfl⟩) (cs_recvR hK hw (by decide)) hw hK hS rfl hl.1 [] rfl (Nat.le_of_ble_eq_true rfl) dX1_note_38 (fun r_5 H locs hq hw hS => ?_)
        replace hE := cs_letE hq hE
        clear hq
        refine lv_iload_n hx hb dX1_note_41 rfl (lv_at hl 3 rfl) ?_
        refine lv_icmp_ge (tgt := 51) hx hb dX1_note_42 (by decide) (fun c_6 => ?_) (fun c_6 => ?_)
        · replace hE := cs_T c_6 hE
          subst hE
          exact hk _ _ _ hw hS (lv_sub hl [0, 1, 2, 3, 4] rfl)
        · replace hE := cs_F c_6 hE
          refine lv_iinc (v := v4 + 1) (lv' := [(4, .int (v4 + 1)), (3, .int (r_1 + 1)), (0, .ref (ad 2)), (1, .int a1), (2, .int a2)]) hx hb dX1_note_45 hl (k := 0) rfl rfl (by decide) rfl (fun ls hl => ?_)
          refine lv_goto (tgt := 13) hx hb dX1_note_48 (by decide) ?_
          exact ih (v4 + 1) _ _ hw hS _ (lv_sub hl [0, 1, 2, 3, 4] rfl) (cs_up hm.1 c_3) hE
  exact lp cs_N 0 _ _ hw hS _ (lv_sub hl [0, 1, 2, 3, 4] rfl) (cs_up0 0) hq.symm
theorem kk_X1_note : yX1_note.cls = RX1 ∧ yX1_note.cls ≠ "java/lang/invoke/MethodHandle" ∧ yX1_note.cls ≠ "java/lang/invoke/VarHandle" ∧ (parseMethodDescriptor yX1_note.desc).map (fun d => d.parameters.length) = some 2 := by decide +kernel
def m_X1_find_L3 (S : cs_St) (j1 : Nat) (u2 : Int32) (u3 : Int32) (u4 : Int32) (u5 : Int32) : Nat → Int32 → Int32
  | 0, _ => 0
  | n + 1, v6 => (if u3 ≤ v6 then 0 else cs_let (m_X3_at S j1 v6) (fun r_2 => cs_let (m_X3_at S 5 r_2) (fun r_3 => (if r_3 = u4 then (if u5 < r_2 then m_X1_find_L3 S j1 u2 u3 u4 u5 n (v6 + 1) else r_2) else m_X1_find_L3 S j1 u2 u3 u4 u5 n (v6 + 1)))))
theorem m_X1_find_L3_s {S : cs_St} {j1 : Nat} {u2 : Int32} {u3 : Int32} {u4 : Int32} {u5 : Int32} {n : Nat} {v6 : Int32} : m_X1_find_L3 S j1 u2 u3 u4 u5 (n + 1) v6 = (if u3 ≤ v6 then 0 else cs_let (m_X3_at S j1 v6) (fun r_2 => cs_let (m_X3_at S 5 r_2) (fun r_3 => (if r_3 = u4 then (if u5 < r_2 then m_X1_find_L3 S j1 u2 u3 u4 u5 n (v6 + 1) else r_2) else m_X1_find_L3 S j1 u2 u3 u4 u5 n (v6 + 1))))) := rfl
def m_X1_find (S : cs_St) (j1 : Nat) (a2 : Int32) (a3 : Int32) (a4 : Int32) (a5 : Int32) : Int32 := m_X1_find_L3 S j1 a2 a3 a4 a5 cs_N a2
set_option maxHeartbeats 4000000 in
set_option maxRecDepth 100000 in
theorem c_X1_find (l : Launch) (D : va_G) (cy : ClassId) (ad : Nat → Nat) (S : cs_St) (j1 : Nat) (a2 : Int32) (a3 : Int32) (a4 : Int32) (a5 : Int32) (hj1 : j1 < 19) : Met l yX1_find (cs_ws yX1_find cX1_find 8 (some .int)) (cs_rm 1 21) (cs_Pc D cy ad [.ref (ad 2), .ref (ad (6 + 2 * j1)), .int a2, .int a3, .int a4, .int a5] S) (cs_Qi D cy ad (fun r S1 => r = m_X1_find S j1 a2 a3 a4 a5 ∧ S1 = S)) 0 0 (cs_A ad) := by
  refine cs_of RX1 (by decide) rfl (Nat.le_of_ble_eq_true rfl) ?_
  intro p e s m below meth c hF hr hlk hw hK ls hl
  obtain ⟨hx, hb, hml, hown, hts⟩ := id hF
  have hS : va_S (cs_A ad) s.heap s.heap [] := va_S.rf
  have hl : lv_has ls 8 [(0, .ref (ad 2)), (1, .ref (ad (6 + 2 * j1))), (2, .int a2), (3, .int a3), (4, .int a4), (5, .int a5)] := hl
  generalize hRes : m_X1_find S j1 a2 a3 a4 a5 = Res
  unfold m_X1_find at hRes
  refine lv_iload_n hx hb dX1_find_0 rfl (lv_at hl 2 rfl) ?_
  refine lv_istore (lv' := [(6, .int a2), (0, .ref (ad 2)), (1, .ref (ad (6 + 2 * j1))), (2, .int a2), (3, .int a3), (4, .int a4), (5, .int a5)]) hx hb dX1_find_1 hl (by decide) rfl (fun ls hl => ?_)
  -- the loop at 3
  have lp : ∀ (n : Nat) (v6 : Int32) (H : Heap) (locs : List Loc), cs_w D cy ad S H → va_S (cs_A ad) s.heap H locs → ∀ (ls : Array Slot), lv_has ls 8 [(6, .int v6), (0, .ref (ad 2)), (1, .ref (ad (6 + 2 * j1))), (2, .int a2), (3, .int a3), (4, .int a4), (5, .int a5)] → (2147483647 - v6.toInt < (n : Int) ∧ 0 < n) → m_X1_find_L3 S j1 a2 a3 a4 a5 n v6 = Res → W p l e (cs_rm 1 21) s m ([.ref (ad 2), .ref (ad (6 + 2 * j1)), .int a2, .int a3, .int a4, .int a5]).toArray below meth c H locs 0 0 (MQ below (cs_Qi D cy ad (fun r S1 => r = Res ∧ S1 = S)) ([.ref (ad 2), .ref (ad (6 + 2 * j1)), .int a2, .int a3, .int a4, .int a5]).toArray s 0 0 (cs_A ad)) (F0 m 3 ls []) := by
    intro n
    induction n with
    | zero => intro v6 H locs hw hS ls hl hm; exact absurd hm.2 (Nat.lt_irrefl 0)
    | succ n ih =>
      intro v6 H locs hw hS ls hl hm hRes
      replace hRes := m_X1_find_L3_s.symm.trans hRes
      refine lv_iload hx hb dX1_find_3 (lv_at hl 0 rfl) ?_
      refine lv_iload_n hx hb dX1_find_5 rfl (lv_at hl 4 rfl) ?_
      refine lv_icmp_ge (tgt := 47) hx hb dX1_find_6 (by decide) (fun c_1 => ?_) (fun c_1 => ?_)
      · replace hRes := cs_T c_1 hRes
        refine lv_iconst (v := 0) hx hb dX1_find_47 (by decide) ?_
        exact cs_iret hF hr hlk hw hK hS dX1_find_48 ⟨hRes, rfl⟩
      · replace hRes := cs_F c_1 hRes
        refine lv_aload_n hx hb dX1_find_9 rfl (lv_at hl 2 rfl) ?_
        refine lv_iload hx hb dX1_find_10 (lv_at hl 0 rfl) ?_
        refine cs_vir hF (c_X3_at l D cy ad S j1 v6 hj1) (cwV 1 hts g_X1_30 rfl rfl rfl kk_X3_at ⟨Nat.le_of_ble_eq_true rfl, Nat.le_of_ble_eq_true rfl⟩) (cs_recvR hK hw hj1) hw hK hS rfl hl.1 [] rfl (Nat.le_of_ble_eq_true rfl) dX1_find_12 (fun r_2 H locs hq hw hS => ?_)
        replace hRes := cs_letE hq hRes
        clear hq
        refine lv_istore (lv' := [(7, .int r_2), (6, .int v6), (0, .ref (ad 2)), (1, .ref (ad (6 + 2 * j1))), (2, .int a2), (3, .int a3), (4, .int a4), (5, .int a5)]) hx hb dX1_find_15 hl (by decide) rfl (fun ls hl => ?_)
        refine lv_aload_n hx hb dX1_find_17 rfl (lv_at hl 2 rfl) ?_
        refine cs_get (C := RX1) (T := TX1) (N := 3) hF in_X1 hw hK 2 rfl rfl 0 (by decide) q_40 rfl dX1_find_18 ?_
        refine lv_iload hx hb dX1_find_21 (lv_at hl 0 rfl) ?_
        refine cs_vir hF (c_X3_at l D cy ad S 5 r_2 (by decide)) (cwV 1 hts g_X1_30 rfl rfl rfl kk_X3_at ⟨Nat.le_of_ble_eq_true rfl, Nat.le_of_ble_eq_true rfl⟩) (cs_recvR hK hw (by decide)) hw hK hS rfl hl.1 [] rfl (Nat.le_of_ble_eq_true rfl) dX1_find_23 (fun r_3 H locs hq hw hS => ?_)
        replace hRes := cs_letE hq hRes
        clear hq
        refine lv_iload hx hb dX1_find_26 (lv_at hl 6 rfl) ?_
        refine lv_icmp_ne (tgt := 41) hx hb dX1_find_28 (by decide) (fun c_4 => ?_) (fun c_4 => ?_)
        · replace hRes := cs_F c_4 hRes
          refine lv_iinc (v := v6 + 1) (lv' := [(6, .int (v6 + 1)), (7, .int r_2), (0, .ref (ad 2)), (1, .ref (ad (6 + 2 * j1))), (2, .int a2), (3, .int a3), (4, .int a4), (5, .int a5)]) hx hb dX1_find_41 hl (k := 1) rfl rfl (by decide) rfl (fun ls hl => ?_)
          refine lv_goto (tgt := 3) hx hb dX1_find_44 (by decide) ?_
          exact ih (v6 + 1) _ _ hw hS _ (lv_sub hl [0, 2, 3, 4, 5, 6, 7] rfl) (cs_up hm.1 c_1) hRes
        · replace hRes := cs_T c_4 hRes
          refine lv_iload hx hb dX1_find_31 (lv_at hl 0 rfl) ?_
          refine lv_iload hx hb dX1_find_33 (lv_at hl 7 rfl) ?_
          refine lv_icmp_gt (tgt := 41) hx hb dX1_find_35 (by decide) (fun c_5 => ?_) (fun c_5 => ?_)
          · replace hRes := cs_T c_5 hRes
            refine lv_iinc (v := v6 + 1) (lv' := [(6, .int (v6 + 1)), (7, .int r_2), (0, .ref (ad 2)), (1, .ref (ad (6 + 2 * j1))), (2, .int a2), (3, .int a3), (4, .int a4), (5, .int a5)]) hx hb dX1_find_41 hl (k := 1) rfl rfl (by decide) rfl (fun ls hl => ?_)
            refine lv_goto (tgt := 3) hx hb dX1_find_44 (by decide) ?_
            exact ih (v6 + 1) _ _ hw hS _ (lv_sub hl [0, 2, 3, 4, 5, 6, 7] rfl) (cs_up hm.1 c_1) hRes
          · replace hRes := cs_F c_5 hRes
            refine lv_iload hx hb dX1_find_38 (lv_at hl 0 rfl) ?_
            exact cs_iret hF hr hlk hw hK hS dX1_find_40 ⟨hRes, rfl⟩
  exact lp cs_N a2 _ _ hw hS _ (lv_sub hl [0, 1, 2, 3, 4, 5, 6] rfl) (cs_up0 a2) hRes
theorem kk_X1_find : yX1_find.cls = RX1 ∧ yX1_find.cls ≠ "java/lang/invoke/MethodHandle" ∧ yX1_find.cls ≠ "java/lang/invoke/VarHandle" ∧ (parseMethodDescriptor yX1_find.desc).map (fun d => d.parameters.length) = some 5 := by decide +kernel
theorem g_X5_23 : GoodIn cs_WS (wsV RX5 23 RX3 yX3_length (cs_ws yX3_length cX3_length 1 (some .int))) := cs_goodV q_83 q_20 q_21 q_10 q_15
def m_X5_there (S : cs_St) : Int32 := cs_let (m_X3_length S 8) (fun r_1 => r_1)
set_option maxHeartbeats 4000000 in
set_option maxRecDepth 100000 in
theorem c_X5_there (l : Launch) (D : va_G) (cy : ClassId) (ad : Nat → Nat) (S : cs_St) : Met l yX5_there (cs_ws yX5_there cX5_there 1 (some .int)) (cs_rm 1 20) (cs_Pc D cy ad [.ref (ad 3)] S) (cs_Qi D cy ad (fun r S1 => r = m_X5_there S ∧ S1 = S)) 0 0 (cs_A ad) := by
  refine cs_of RX5 (by decide) rfl (Nat.le_of_ble_eq_true rfl) ?_
  intro p e s m below meth c hF hr hlk hw hK ls hl
  obtain ⟨hx, hb, hml, hown, hts⟩ := id hF
  have hS : va_S (cs_A ad) s.heap s.heap [] := va_S.rf
  have hl : lv_has ls 1 [(0, .ref (ad 3))] := hl
  generalize hRes : m_X5_there S = Res
  unfold m_X5_there at hRes
  refine lv_aload_n hx hb dX5_there_0 rfl (lv_at hl 0 rfl) ?_
  refine cs_get (C := RX5) (T := TX5) (N := 3) hF in_X5 hw hK 3 rfl rfl 0 (by decide) q_200 rfl dX5_there_1 ?_
  refine cs_vir hF (c_X3_length l D cy ad S 8 (by decide)) (cwV 0 hts g_X5_23 rfl rfl rfl kk_X3_length ⟨Nat.le_of_ble_eq_true rfl, Nat.le_of_ble_eq_true rfl⟩) (cs_recvR hK hw (by decide)) hw hK hS rfl hl.1 [] rfl (Nat.le_of_ble_eq_true rfl) dX5_there_4 (fun r_1 H locs hq hw hS => ?_)
  replace hRes := cs_letE hq hRes
  clear hq
  exact cs_iret hF hr hlk hw hK hS dX5_there_7 ⟨hRes, rfl⟩
theorem kk_X5_there : yX5_there.cls = RX5 ∧ yX5_there.cls ≠ "java/lang/invoke/MethodHandle" ∧ yX5_there.cls ≠ "java/lang/invoke/VarHandle" ∧ (parseMethodDescriptor yX5_there.desc).map (fun d => d.parameters.length) = some 0 := by decide +kernel
theorem g_X5_27 : GoodIn cs_WS (wsV RX5 27 RX3 yX3_at (cs_ws yX3_at cX3_at 2 (some .int))) := cs_goodV q_84 q_50 q_51 q_10 q_47
def m_X5_age (S : cs_St) (a1 : Int32) : Int32 := cs_let (m_X3_at S 9 a1) (fun r_1 => r_1)
set_option maxHeartbeats 4000000 in
set_option maxRecDepth 100000 in
theorem c_X5_age (l : Launch) (D : va_G) (cy : ClassId) (ad : Nat → Nat) (S : cs_St) (a1 : Int32) : Met l yX5_age (cs_ws yX5_age cX5_age 2 (some .int)) (cs_rm 1 21) (cs_Pc D cy ad [.ref (ad 3), .int a1] S) (cs_Qi D cy ad (fun r S1 => r = m_X5_age S a1 ∧ S1 = S)) 0 0 (cs_A ad) := by
  refine cs_of RX5 (by decide) rfl (Nat.le_of_ble_eq_true rfl) ?_
  intro p e s m below meth c hF hr hlk hw hK ls hl
  obtain ⟨hx, hb, hml, hown, hts⟩ := id hF
  have hS : va_S (cs_A ad) s.heap s.heap [] := va_S.rf
  have hl : lv_has ls 2 [(0, .ref (ad 3)), (1, .int a1)] := hl
  generalize hRes : m_X5_age S a1 = Res
  unfold m_X5_age at hRes
  refine lv_aload_n hx hb dX5_age_0 rfl (lv_at hl 0 rfl) ?_
  refine cs_get (C := RX5) (T := TX5) (N := 3) hF in_X5 hw hK 3 rfl rfl 1 (by decide) q_82 rfl dX5_age_1 ?_
  refine lv_iload_n hx hb dX5_age_4 rfl (lv_at hl 1 rfl) ?_
  refine cs_vir hF (c_X3_at l D cy ad S 9 a1 (by decide)) (cwV 1 hts g_X5_27 rfl rfl rfl kk_X3_at ⟨Nat.le_of_ble_eq_true rfl, Nat.le_of_ble_eq_true rfl⟩) (cs_recvR hK hw (by decide)) hw hK hS rfl hl.1 [] rfl (Nat.le_of_ble_eq_true rfl) dX5_age_5 (fun r_1 H locs hq hw hS => ?_)
  replace hRes := cs_letE hq hRes
  clear hq
  exact cs_iret hF hr hlk hw hK hS dX5_age_8 ⟨hRes, rfl⟩
theorem kk_X5_age : yX5_age.cls = RX5 ∧ yX5_age.cls ≠ "java/lang/invoke/MethodHandle" ∧ yX5_age.cls ≠ "java/lang/invoke/VarHandle" ∧ (parseMethodDescriptor yX5_age.desc).map (fun d => d.parameters.length) = some 1 := by decide +kernel
theorem g_X5_35 : GoodIn cs_WS (wsV RX5 35 RX3 yX3_append (cs_ws yX3_append cX3_append 2 none)) := cs_goodV q_206 q_97 q_98 q_10 q_85
def m_X5_take (S : cs_St) (a1 : Int32) : Int32 × cs_St := cs_let (m_X3_append S 8 (S.2 8)) (fun S_1 => cs_let (m_X3_append S_1 9 a1) (fun S_2 => cs_let (cs_sS S_2 8 ((S_2.2 8) + 1)) (fun S_3 => (S.2 8, S_3))))
set_option maxHeartbeats 4000000 in
set_option maxRecDepth 100000 in
theorem c_X5_take (l : Launch) (D : va_G) (cy : ClassId) (ad : Nat → Nat) (S : cs_St) (a1 : Int32) : Met l yX5_take (cs_ws yX5_take cX5_take 3 (some .int)) (cs_rm 1 21) (cs_Pc D cy ad [.ref (ad 3), .int a1] S) (cs_Qi D cy ad (fun r S1 => r = (m_X5_take S a1).1 ∧ S1 = (m_X5_take S a1).2)) 0 0 (cs_A ad) := by
  refine cs_of RX5 (by decide) rfl (Nat.le_of_ble_eq_true rfl) ?_
  intro p e s m below meth c hF hr hlk hw hK ls hl
  obtain ⟨hx, hb, hml, hown, hts⟩ := id hF
  have hS : va_S (cs_A ad) s.heap s.heap [] := va_S.rf
  have hl : lv_has ls 3 [(0, .ref (ad 3)), (1, .int a1)] := hl
  generalize hRes : m_X5_take S a1 = Res
  unfold m_X5_take at hRes
  refine lv_aload_n hx hb dX5_take_0 rfl (lv_at hl 0 rfl) ?_
  refine cs_get (C := RX5) (T := TX5) (N := 3) hF in_X5 hw hK 3 rfl rfl 2 (by decide) q_205 rfl dX5_take_1 ?_
  refine lv_istore_n (lv' := [(2, .int (S.2 8)), (0, .ref (ad 3)), (1, .int a1)]) hx hb dX5_take_4 rfl hl (by decide) rfl (fun ls hl => ?_)
  refine lv_aload_n hx hb dX5_take_5 rfl (lv_at hl 1 rfl) ?_
  refine cs_get (C := RX5) (T := TX5) (N := 3) hF in_X5 hw hK 3 rfl rfl 0 (by decide) q_200 rfl dX5_take_6 ?_
  refine lv_iload_n hx hb dX5_take_9 rfl (lv_at hl 0 rfl) ?_
  refine cs_vv hF (c_X3_append l D cy ad S 8 (S.2 8) (by decide) (by decide)) (cwV 1 hts g_X5_35 rfl rfl rfl kk_X3_append ⟨Nat.le_of_ble_eq_true rfl, Nat.le_of_ble_eq_true rfl⟩) (cs_recvR hK hw (by decide)) hw hK hS rfl hl.1 [] rfl (Nat.le_of_ble_eq_true rfl) dX5_take_10 (fun S_1 H locs hq hw hS => ?_)
  replace hRes := cs_letE hq hRes
  clear hq
  refine lv_aload_n hx hb dX5_take_13 rfl (lv_at hl 1 rfl) ?_
  refine cs_get (C := RX5) (T := TX5) (N := 3) hF in_X5 hw hK 3 rfl rfl 1 (by decide) q_82 rfl dX5_take_14 ?_
  refine lv_iload_n hx hb dX5_take_17 rfl (lv_at hl 2 rfl) ?_
  refine cs_vv hF (c_X3_append l D cy ad S_1 9 a1 (by decide) (by decide)) (cwV 1 hts g_X5_35 rfl rfl rfl kk_X3_append ⟨Nat.le_of_ble_eq_true rfl, Nat.le_of_ble_eq_true rfl⟩) (cs_recvR hK hw (by decide)) hw hK hS rfl hl.1 [] rfl (Nat.le_of_ble_eq_true rfl) dX5_take_18 (fun S_2 H locs hq hw hS => ?_)
  replace hRes := cs_letE hq hRes
  clear hq
  refine lv_aload_n hx hb dX5_take_21 rfl (lv_at hl 1 rfl) ?_
  refine lv_dup hx hb dX5_take_22 rfl ?_
  refine cs_get (C := RX5) (T := TX5) (N := 3) hF in_X5 hw hK 3 rfl rfl 2 (by decide) q_205 rfl dX5_take_23 ?_
  refine lv_iconst (v := 1) hx hb dX5_take_26 (by decide) ?_
  refine lv_iadd hx hb dX5_take_27 ?_
  refine cs_put (C := RX5) (T := TX5) (N := 3) hF in_X5 tyX5 tyX5_ok nmX5 hw hK hS 3 rfl rfl 2 (by decide) q_205 rfl (by decide +kernel) (Nat.le_of_ble_eq_true rfl) (cs_sS S_2 8 ((S_2.2 8) + 1)) rfl (cs_sS_ok hw.1 (fun h => absurd h (by decide))) dX5_take_28 (fun H locs hw hS => ?_)
  obtain ⟨S_3, hq⟩ : ∃ z, z = cs_sS S_2 8 ((S_2.2 8) + 1) := ⟨_, rfl⟩
  rw [← hq] at hw
  replace hRes := cs_letE hq hRes
  clear hq
  refine lv_iload_n hx hb dX5_take_31 rfl (lv_at hl 0 rfl) ?_
  exact cs_iret hF hr hlk hw hK hS dX5_take_32 ⟨cs_eq1 hRes, cs_eq2 hRes⟩
theorem kk_X5_take : yX5_take.cls = RX5 ∧ yX5_take.cls ≠ "java/lang/invoke/MethodHandle" ∧ yX5_take.cls ≠ "java/lang/invoke/VarHandle" ∧ (parseMethodDescriptor yX5_take.desc).map (fun d => d.parameters.length) = some 1 := by decide +kernel
def m_X5_placeOf_L2 (S : cs_St) (u1 : Int32) : Nat → Int32 → Int32
  | 0, _ => 0
  | n + 1, v2 => cs_let (m_X3_length S 8) (fun r_1 => (if r_1 ≤ v2 then (-1) else cs_let (m_X3_at S 8 v2) (fun r_3 => (if r_3 = u1 then v2 else m_X5_placeOf_L2 S u1 n (v2 + 1)))))
theorem m_X5_placeOf_L2_s {S : cs_St} {u1 : Int32} {n : Nat} {v2 : Int32} : m_X5_placeOf_L2 S u1 (n + 1) v2 = cs_let (m_X3_length S 8) (fun r_1 => (if r_1 ≤ v2 then (-1) else cs_let (m_X3_at S 8 v2) (fun r_3 => (if r_3 = u1 then v2 else m_X5_placeOf_L2 S u1 n (v2 + 1))))) := rfl
def m_X5_placeOf (S : cs_St) (a1 : Int32) : Int32 := m_X5_placeOf_L2 S a1 cs_N 0
set_option maxHeartbeats 4000000 in
set_option maxRecDepth 100000 in
theorem c_X5_placeOf (l : Launch) (D : va_G) (cy : ClassId) (ad : Nat → Nat) (S : cs_St) (a1 : Int32) : Met l yX5_placeOf (cs_ws yX5_placeOf cX5_placeOf 3 (some .int)) (cs_rm 1 21) (cs_Pc D cy ad [.ref (ad 3), .int a1] S) (cs_Qi D cy ad (fun r S1 => r = m_X5_placeOf S a1 ∧ S1 = S)) 0 0 (cs_A ad) := by
  refine cs_of RX5 (by decide) rfl (Nat.le_of_ble_eq_true rfl) ?_
  intro p e s m below meth c hF hr hlk hw hK ls hl
  obtain ⟨hx, hb, hml, hown, hts⟩ := id hF
  have hS : va_S (cs_A ad) s.heap s.heap [] := va_S.rf
  have hl : lv_has ls 3 [(0, .ref (ad 3)), (1, .int a1)] := hl
  generalize hRes : m_X5_placeOf S a1 = Res
  unfold m_X5_placeOf at hRes
  refine lv_iconst (v := 0) hx hb dX5_placeOf_0 (by decide) ?_
  refine lv_istore_n (lv' := [(2, .int 0), (0, .ref (ad 3)), (1, .int a1)]) hx hb dX5_placeOf_1 rfl hl (by decide) rfl (fun ls hl => ?_)
  -- the loop at 2
  have lp : ∀ (n : Nat) (v2 : Int32) (H : Heap) (locs : List Loc), cs_w D cy ad S H → va_S (cs_A ad) s.heap H locs → ∀ (ls : Array Slot), lv_has ls 3 [(2, .int v2), (0, .ref (ad 3)), (1, .int a1)] → (2147483647 - v2.toInt < (n : Int) ∧ 0 < n) → m_X5_placeOf_L2 S a1 n v2 = Res → W p l e (cs_rm 1 21) s m ([.ref (ad 3), .int a1]).toArray below meth c H locs 0 0 (MQ below (cs_Qi D cy ad (fun r S1 => r = Res ∧ S1 = S)) ([.ref (ad 3), .int a1]).toArray s 0 0 (cs_A ad)) (F0 m 2 ls []) := by
    intro n
    induction n with
    | zero => intro v2 H locs hw hS ls hl hm; exact absurd hm.2 (Nat.lt_irrefl 0)
    | succ n ih =>
      intro v2 H locs hw hS ls hl hm hRes
      replace hRes := m_X5_placeOf_L2_s.symm.trans hRes
      refine lv_iload_n hx hb dX5_placeOf_2 rfl (lv_at hl 0 rfl) ?_
      refine lv_aload_n hx hb dX5_placeOf_3 rfl (lv_at hl 1 rfl) ?_
      refine cs_get (C := RX5) (T := TX5) (N := 3) hF in_X5 hw hK 3 rfl rfl 0 (by decide) q_200 rfl dX5_placeOf_4 ?_
      refine cs_vir hF (c_X3_length l D cy ad S 8 (by decide)) (cwV 0 hts g_X5_23 rfl rfl rfl kk_X3_length ⟨Nat.le_of_ble_eq_true rfl, Nat.le_of_ble_eq_true rfl⟩) (cs_recvR hK hw (by decide)) hw hK hS rfl hl.1 [.int v2] rfl (Nat.le_of_ble_eq_true rfl) dX5_placeOf_7 (fun r_1 H locs hq hw hS => ?_)
      replace hRes := cs_letE hq hRes
      clear hq
      refine lv_icmp_ge (tgt := 33) hx hb dX5_placeOf_10 (by decide) (fun c_2 => ?_) (fun c_2 => ?_)
      · replace hRes := cs_T c_2 hRes
        refine lv_iconst (v := -1) hx hb dX5_placeOf_33 (by decide) ?_
        exact cs_iret hF hr hlk hw hK hS dX5_placeOf_34 ⟨hRes, rfl⟩
      · replace hRes := cs_F c_2 hRes
        refine lv_aload_n hx hb dX5_placeOf_13 rfl (lv_at hl 1 rfl) ?_
        refine cs_get (C := RX5) (T := TX5) (N := 3) hF in_X5 hw hK 3 rfl rfl 0 (by decide) q_200 rfl dX5_placeOf_14 ?_
        refine lv_iload_n hx hb dX5_placeOf_17 rfl (lv_at hl 0 rfl) ?_
        refine cs_vir hF (c_X3_at l D cy ad S 8 v2 (by decide)) (cwV 1 hts g_X5_27 rfl rfl rfl kk_X3_at ⟨Nat.le_of_ble_eq_true rfl, Nat.le_of_ble_eq_true rfl⟩) (cs_recvR hK hw (by decide)) hw hK hS rfl hl.1 [] rfl (Nat.le_of_ble_eq_true rfl) dX5_placeOf_18 (fun r_3 H locs hq hw hS => ?_)
        replace hRes := cs_letE hq hRes
        clear hq
        refine lv_iload_n hx hb dX5_placeOf_21 rfl (lv_at hl 2 rfl) ?_
        refine lv_icmp_ne (tgt := 27) hx hb dX5_placeOf_22 (by decide) (fun c_4 => ?_) (fun c_4 => ?_)
        · replace hRes := cs_F c_4 hRes
          refine lv_iinc (v := v2 + 1) (lv' := [(2, .int (v2 + 1)), (0, .ref (ad 3)), (1, .int a1)]) hx hb dX5_placeOf_27 hl (k := 0) rfl rfl (by decide) rfl (fun ls hl => ?_)
          refine lv_goto (tgt := 2) hx hb dX5_placeOf_30 (by decide) ?_
          exact ih (v2 + 1) _ _ hw hS _ (lv_sub hl [0, 1, 2] rfl) (cs_up hm.1 c_2) hRes
        · replace hRes := cs_T c_4 hRes
          refine lv_iload_n hx hb dX5_placeOf_25 rfl (lv_at hl 0 rfl) ?_
          exact cs_iret hF hr hlk hw hK hS dX5_placeOf_26 ⟨hRes, rfl⟩
  exact lp cs_N 0 _ _ hw hS _ (lv_sub hl [0, 1, 2] rfl) (cs_up0 0) hRes
theorem kk_X5_placeOf : yX5_placeOf.cls = RX5 ∧ yX5_placeOf.cls ≠ "java/lang/invoke/MethodHandle" ∧ yX5_placeOf.cls ≠ "java/lang/invoke/VarHandle" ∧ (parseMethodDescriptor yX5_placeOf.desc).map (fun d => d.parameters.length) = some 1 := by decide +kernel
theorem g_X5_38 : GoodIn cs_WS (wsV RX5 38 RX3 yX3_cut (cs_ws yX3_cut cX3_cut 3 none)) := cs_goodV q_209 q_30 q_31 q_10 q_23
def m_X5_letGo (S : cs_St) (a1 : Int32) : cs_St := cs_let (m_X3_cut S 8 a1 (a1 + 1)) (fun S_1 => cs_let (m_X3_cut S_1 9 a1 (a1 + 1)) (fun S_2 => S_2))
set_option maxHeartbeats 4000000 in
set_option maxRecDepth 100000 in
theorem c_X5_letGo (l : Launch) (D : va_G) (cy : ClassId) (ad : Nat → Nat) (S : cs_St) (a1 : Int32) : Met l yX5_letGo (cs_ws yX5_letGo cX5_letGo 2 none) (cs_rm 2 82) (cs_Pc D cy ad [.ref (ad 3), .int a1] S) (cs_Qv D cy ad (fun S1 => S1 = m_X5_letGo S a1)) 0 0 (cs_A ad) := by
  refine cs_of RX5 (by decide) rfl (Nat.le_of_ble_eq_true rfl) ?_
  intro p e s m below meth c hF hr hlk hw hK ls hl
  obtain ⟨hx, hb, hml, hown, hts⟩ := id hF
  have hS : va_S (cs_A ad) s.heap s.heap [] := va_S.rf
  have hl : lv_has ls 2 [(0, .ref (ad 3)), (1, .int a1)] := hl
  generalize hRes : m_X5_letGo S a1 = Res
  unfold m_X5_letGo at hRes
  refine lv_aload_n hx hb dX5_letGo_0 rfl (lv_at hl 0 rfl) ?_
  refine cs_get (C := RX5) (T := TX5) (N := 3) hF in_X5 hw hK 3 rfl rfl 0 (by decide) q_200 rfl dX5_letGo_1 ?_
  refine lv_iload_n hx hb dX5_letGo_4 rfl (lv_at hl 1 rfl) ?_
  refine lv_iload_n hx hb dX5_letGo_5 rfl (lv_at hl 1 rfl) ?_
  refine lv_iconst (v := 1) hx hb dX5_letGo_6 (by decide) ?_
  refine lv_iadd hx hb dX5_letGo_7 ?_
  refine cs_vv hF (c_X3_cut l D cy ad S 8 a1 (a1 + 1) (by decide)) (cwV 2 hts g_X5_38 rfl rfl rfl kk_X3_cut ⟨Nat.le_of_ble_eq_true rfl, Nat.le_of_ble_eq_true rfl⟩) (cs_recvR hK hw (by decide)) hw hK hS rfl hl.1 [] rfl (Nat.le_of_ble_eq_true rfl) dX5_letGo_8 (fun S_1 H locs hq hw hS => ?_)
  replace hRes := cs_letE hq hRes
  clear hq
  refine lv_aload_n hx hb dX5_letGo_11 rfl (lv_at hl 0 rfl) ?_
  refine cs_get (C := RX5) (T := TX5) (N := 3) hF in_X5 hw hK 3 rfl rfl 1 (by decide) q_82 rfl dX5_letGo_12 ?_
  refine lv_iload_n hx hb dX5_letGo_15 rfl (lv_at hl 1 rfl) ?_
  refine lv_iload_n hx hb dX5_letGo_16 rfl (lv_at hl 1 rfl) ?_
  refine lv_iconst (v := 1) hx hb dX5_letGo_17 (by decide) ?_
  refine lv_iadd hx hb dX5_letGo_18 ?_
  refine cs_vv hF (c_X3_cut l D cy ad S_1 9 a1 (a1 + 1) (by decide)) (cwV 2 hts g_X5_38 rfl rfl rfl kk_X3_cut ⟨Nat.le_of_ble_eq_true rfl, Nat.le_of_ble_eq_true rfl⟩) (cs_recvR hK hw (by decide)) hw hK hS rfl hl.1 [] rfl (Nat.le_of_ble_eq_true rfl) dX5_letGo_19 (fun S_2 H locs hq hw hS => ?_)
  replace hRes := cs_letE hq hRes
  clear hq
  exact cs_vret hF hr hlk hw hK hS dX5_letGo_22 hRes
theorem kk_X5_letGo : yX5_letGo.cls = RX5 ∧ yX5_letGo.cls ≠ "java/lang/invoke/MethodHandle" ∧ yX5_letGo.cls ≠ "java/lang/invoke/VarHandle" ∧ (parseMethodDescriptor yX5_letGo.desc).map (fun d => d.parameters.length) = some 1 := by decide +kernel
theorem g_X5_42 : GoodIn cs_WS (wsV RX5 42 RX3 yX3_empty (cs_ws yX3_empty cX3_empty 1 none)) := cs_goodV q_211 q_35 q_36 q_10 q_32
def m_X5_loseAll (S : cs_St) : cs_St := cs_let (m_X3_empty S 8) (fun S_1 => cs_let (m_X3_empty S_1 9) (fun S_2 => S_2))
set_option maxHeartbeats 4000000 in
set_option maxRecDepth 100000 in
theorem c_X5_loseAll (l : Launch) (D : va_G) (cy : ClassId) (ad : Nat → Nat) (S : cs_St) : Met l yX5_loseAll (cs_ws yX5_loseAll cX5_loseAll 1 none) (cs_rm 1 20) (cs_Pc D cy ad [.ref (ad 3)] S) (cs_Qv D cy ad (fun S1 => S1 = m_X5_loseAll S)) 0 0 (cs_A ad) := by
  refine cs_of RX5 (by decide) rfl (Nat.le_of_ble_eq_true rfl) ?_
  intro p e s m below meth c hF hr hlk hw hK ls hl
  obtain ⟨hx, hb, hml, hown, hts⟩ := id hF
  have hS : va_S (cs_A ad) s.heap s.heap [] := va_S.rf
  have hl : lv_has ls 1 [(0, .ref (ad 3))] := hl
  generalize hRes : m_X5_loseAll S = Res
  unfold m_X5_loseAll at hRes
  refine lv_aload_n hx hb dX5_loseAll_0 rfl (lv_at hl 0 rfl) ?_
  refine cs_get (C := RX5) (T := TX5) (N := 3) hF in_X5 hw hK 3 rfl rfl 0 (by decide) q_200 rfl dX5_loseAll_1 ?_
  refine cs_vv hF (c_X3_empty l D cy ad S 8 (by decide)) (cwV 0 hts g_X5_42 rfl rfl rfl kk_X3_empty ⟨Nat.le_of_ble_eq_true rfl, Nat.le_of_ble_eq_true rfl⟩) (cs_recvR hK hw (by decide)) hw hK hS rfl hl.1 [] rfl (Nat.le_of_ble_eq_true rfl) dX5_loseAll_4 (fun S_1 H locs hq hw hS => ?_)
  replace hRes := cs_letE hq hRes
  clear hq
  refine lv_aload_n hx hb dX5_loseAll_7 rfl (lv_at hl 0 rfl) ?_
  refine cs_get (C := RX5) (T := TX5) (N := 3) hF in_X5 hw hK 3 rfl rfl 1 (by decide) q_82 rfl dX5_loseAll_8 ?_
  refine cs_vv hF (c_X3_empty l D cy ad S_1 9 (by decide)) (cwV 0 hts g_X5_42 rfl rfl rfl kk_X3_empty ⟨Nat.le_of_ble_eq_true rfl, Nat.le_of_ble_eq_true rfl⟩) (cs_recvR hK hw (by decide)) hw hK hS rfl hl.1 [] rfl (Nat.le_of_ble_eq_true rfl) dX5_loseAll_11 (fun S_2 H locs hq hw hS => ?_)
  replace hRes := cs_letE hq hRes
  clear hq
  exact cs_vret hF hr hlk hw hK hS dX5_loseAll_14 hRes
theorem kk_X5_loseAll : yX5_loseAll.cls = RX5 ∧ yX5_loseAll.cls ≠ "java/lang/invoke/MethodHandle" ∧ yX5_loseAll.cls ≠ "java/lang/invoke/VarHandle" ∧ (parseMethodDescriptor yX5_loseAll.desc).map (fun d => d.parameters.length) = some 0 := by decide +kernel
def m_X5_see_L2 (S : cs_St) (u1 : Int32) (u2 : Int32) : Nat → Int32 → Int32
  | 0, _ => 0
  | n + 1, v3 => cs_let (m_X3_length S 9) (fun r_1 => (if r_1 ≤ v3 then 0 else cs_let (m_X3_at S 9 v3) (fun r_3 => (if r_3 < u1 then m_X5_see_L2 S u1 u2 n (v3 + 1) else cs_let (m_X3_at S 9 v3) (fun r_5 => (if u2 ≤ r_5 then m_X5_see_L2 S u1 u2 n (v3 + 1) else 1))))))
theorem m_X5_see_L2_s {S : cs_St} {u1 : Int32} {u2 : Int32} {n : Nat} {v3 : Int32} : m_X5_see_L2 S u1 u2 (n + 1) v3 = cs_let (m_X3_length S 9) (fun r_1 => (if r_1 ≤ v3 then 0 else cs_let (m_X3_at S 9 v3) (fun r_3 => (if r_3 < u1 then m_X5_see_L2 S u1 u2 n (v3 + 1) else cs_let (m_X3_at S 9 v3) (fun r_5 => (if u2 ≤ r_5 then m_X5_see_L2 S u1 u2 n (v3 + 1) else 1)))))) := rfl
def m_X5_see (S : cs_St) (a1 : Int32) (a2 : Int32) : Int32 := m_X5_see_L2 S a1 a2 cs_N 0
set_option maxHeartbeats 4000000 in
set_option maxRecDepth 100000 in
theorem c_X5_see (l : Launch) (D : va_G) (cy : ClassId) (ad : Nat → Nat) (S : cs_St) (a1 : Int32) (a2 : Int32) : Met l yX5_see (cs_ws yX5_see cX5_see 4 (some .boolean)) (cs_rm 1 21) (cs_Pc D cy ad [.ref (ad 3), .int a1, .int a2] S) (cs_Qi D cy ad (fun r S1 => r = m_X5_see S a1 a2 ∧ S1 = S)) 0 0 (cs_A ad) := by
  refine cs_of RX5 (by decide) rfl (Nat.le_of_ble_eq_true rfl) ?_
  intro p e s m below meth c hF hr hlk hw hK ls hl
  obtain ⟨hx, hb, hml, hown, hts⟩ := id hF
  have hS : va_S (cs_A ad) s.heap s.heap [] := va_S.rf
  have hl : lv_has ls 4 [(0, .ref (ad 3)), (1, .int a1), (2, .int a2)] := hl
  generalize hRes : m_X5_see S a1 a2 = Res
  unfold m_X5_see at hRes
  refine lv_iconst (v := 0) hx hb dX5_see_0 (by decide) ?_
  refine lv_istore_n (lv' := [(3, .int 0), (0, .ref (ad 3)), (1, .int a1), (2, .int a2)]) hx hb dX5_see_1 rfl hl (by decide) rfl (fun ls hl => ?_)
  -- the loop at 2
  have lp : ∀ (n : Nat) (v3 : Int32) (H : Heap) (locs : List Loc), cs_w D cy ad S H → va_S (cs_A ad) s.heap H locs → ∀ (ls : Array Slot), lv_has ls 4 [(3, .int v3), (0, .ref (ad 3)), (1, .int a1), (2, .int a2)] → (2147483647 - v3.toInt < (n : Int) ∧ 0 < n) → m_X5_see_L2 S a1 a2 n v3 = Res → W p l e (cs_rm 1 21) s m ([.ref (ad 3), .int a1, .int a2]).toArray below meth c H locs 0 0 (MQ below (cs_Qi D cy ad (fun r S1 => r = Res ∧ S1 = S)) ([.ref (ad 3), .int a1, .int a2]).toArray s 0 0 (cs_A ad)) (F0 m 2 ls []) := by
    intro n
    induction n with
    | zero => intro v3 H locs hw hS ls hl hm; exact absurd hm.2 (Nat.lt_irrefl 0)
    | succ n ih =>
      intro v3 H locs hw hS ls hl hm hRes
      replace hRes := m_X5_see_L2_s.symm.trans hRes
      refine lv_iload_n hx hb dX5_see_2 rfl (lv_at hl 0 rfl) ?_
      refine lv_aload_n hx hb dX5_see_3 rfl (lv_at hl 1 rfl) ?_
      refine cs_get (C := RX5) (T := TX5) (N := 3) hF in_X5 hw hK 3 rfl rfl 1 (by decide) q_82 rfl dX5_see_4 ?_
      refine cs_vir hF (c_X3_length l D cy ad S 9 (by decide)) (cwV 0 hts g_X5_23 rfl rfl rfl kk_X3_length ⟨Nat.le_of_ble_eq_true rfl, Nat.le_of_ble_eq_true rfl⟩) (cs_recvR hK hw (by decide)) hw hK hS rfl hl.1 [.int v3] rfl (Nat.le_of_ble_eq_true rfl) dX5_see_7 (fun r_1 H locs hq hw hS => ?_)
      replace hRes := cs_letE hq hRes
      clear hq
      refine lv_icmp_ge (tgt := 45) hx hb dX5_see_10 (by decide) (fun c_2 => ?_) (fun c_2 => ?_)
      · replace hRes := cs_T c_2 hRes
        refine lv_iconst (v := 0) hx hb dX5_see_45 (by decide) ?_
        exact cs_zret hF hr hlk hw hK hS dX5_see_46 ⟨hRes, rfl⟩
      · replace hRes := cs_F c_2 hRes
        refine lv_aload_n hx hb dX5_see_13 rfl (lv_at hl 1 rfl) ?_
        refine cs_get (C := RX5) (T := TX5) (N := 3) hF in_X5 hw hK 3 rfl rfl 1 (by decide) q_82 rfl dX5_see_14 ?_
        refine lv_iload_n hx hb dX5_see_17 rfl (lv_at hl 0 rfl) ?_
        refine cs_vir hF (c_X3_at l D cy ad S 9 v3 (by decide)) (cwV 1 hts g_X5_27 rfl rfl rfl kk_X3_at ⟨Nat.le_of_ble_eq_true rfl, Nat.le_of_ble_eq_true rfl⟩) (cs_recvR hK hw (by decide)) hw hK hS rfl hl.1 [] rfl (Nat.le_of_ble_eq_true rfl) dX5_see_18 (fun r_3 H locs hq hw hS => ?_)
        replace hRes := cs_letE hq hRes
        clear hq
        refine lv_iload_n hx hb dX5_see_21 rfl (lv_at hl 2 rfl) ?_
        refine lv_icmp_lt (tgt := 39) hx hb dX5_see_22 (by decide) (fun c_4 => ?_) (fun c_4 => ?_)
        · replace hRes := cs_T c_4 hRes
          refine lv_iinc (v := v3 + 1) (lv' := [(3, .int (v3 + 1)), (0, .ref (ad 3)), (1, .int a1), (2, .int a2)]) hx hb dX5_see_39 hl (k := 0) rfl rfl (by decide) rfl (fun ls hl => ?_)
          refine lv_goto (tgt := 2) hx hb dX5_see_42 (by decide) ?_
          exact ih (v3 + 1) _ _ hw hS _ (lv_sub hl [0, 1, 2, 3] rfl) (cs_up hm.1 c_2) hRes
        · replace hRes := cs_F c_4 hRes
          refine lv_aload_n hx hb dX5_see_25 rfl (lv_at hl 1 rfl) ?_
          refine cs_get (C := RX5) (T := TX5) (N := 3) hF in_X5 hw hK 3 rfl rfl 1 (by decide) q_82 rfl dX5_see_26 ?_
          refine lv_iload_n hx hb dX5_see_29 rfl (lv_at hl 0 rfl) ?_
          refine cs_vir hF (c_X3_at l D cy ad S 9 v3 (by decide)) (cwV 1 hts g_X5_27 rfl rfl rfl kk_X3_at ⟨Nat.le_of_ble_eq_true rfl, Nat.le_of_ble_eq_true rfl⟩) (cs_recvR hK hw (by decide)) hw hK hS rfl hl.1 [] rfl (Nat.le_of_ble_eq_true rfl) dX5_see_30 (fun r_5 H locs hq hw hS => ?_)
          replace hRes := cs_letE hq hRes
          clear hq
          refine lv_iload_n hx hb dX5_see_33 rfl (lv_at hl 3 rfl) ?_
          refine lv_icmp_ge (tgt := 39) hx hb dX5_see_34 (by decide) (fun c_6 => ?_) (fun c_6 => ?_)
          · replace hRes := cs_T c_6 hRes
            refine lv_iinc (v := v3 + 1) (lv' := [(3, .int (v3 + 1)), (0, .ref (ad 3)), (1, .int a1), (2, .int a2)]) hx hb dX5_see_39 hl (k := 0) rfl rfl (by decide) rfl (fun ls hl => ?_)
            refine lv_goto (tgt := 2) hx hb dX5_see_42 (by decide) ?_
            exact ih (v3 + 1) _ _ hw hS _ (lv_sub hl [0, 1, 2, 3] rfl) (cs_up hm.1 c_2) hRes
          · replace hRes := cs_F c_6 hRes
            refine lv_iconst (v := 1) hx hb dX5_see_37 (by decide) ?_
            exact cs_zret hF hr hlk hw hK hS dX5_see_38 ⟨hRes, rfl⟩
  exact lp cs_N 0 _ _ hw hS _ (lv_sub hl [0, 1, 2, 3] rfl) (cs_up0 0) hRes
theorem kk_X5_see : yX5_see.cls = RX5 ∧ yX5_see.cls ≠ "java/lang/invoke/MethodHandle" ∧ yX5_see.cls ≠ "java/lang/invoke/VarHandle" ∧ (parseMethodDescriptor yX5_see.desc).map (fun d => d.parameters.length) = some 2 := by decide +kernel
end
section
theorem g_X2_31 : GoodIn cs_WS (wsV RX2 31 RX3 yX3_wipe (cs_ws yX3_wipe cX3_wipe 2 none)) := cs_goodV q_74 q_75 q_76 q_10 q_72
theorem g_X2_34 : GoodIn cs_WS (wsV RX2 34 RX3 yX3_empty (cs_ws yX3_empty cX3_empty 1 none)) := cs_goodV q_77 q_35 q_36 q_10 q_32
def m_X2_begin (S : cs_St) : cs_St := cs_let (m_X3_wipe S 17) (fun S_1 => cs_let (m_X3_empty S_1 18) (fun S_2 => S_2))
set_option maxHeartbeats 4000000 in
set_option maxRecDepth 100000 in
theorem c_X2_begin (l : Launch) (D : va_G) (cy : ClassId) (ad : Nat → Nat) (S : cs_St) : Met l yX2_begin (cs_ws yX2_begin cX2_begin 1 none) (cs_rm 1 21) (cs_Pc D cy ad [.ref (ad 5)] S) (cs_Qv D cy ad (fun S1 => S1 = m_X2_begin S)) 0 0 (cs_A ad) := by
  refine cs_of RX2 (by decide) rfl (Nat.le_of_ble_eq_true rfl) ?_
  intro p e s m below meth c hF hr hlk hw hK ls hl
  obtain ⟨hx, hb, hml, hown, hts⟩ := id hF
  have hS : va_S (cs_A ad) s.heap s.heap [] := va_S.rf
  have hl : lv_has ls 1 [(0, .ref (ad 5))] := hl
  generalize hRes : m_X2_begin S = Res
  unfold m_X2_begin at hRes
  refine lv_aload_n hx hb dX2_begin_0 rfl (lv_at hl 0 rfl) ?_
  refine cs_get (C := RX2) (T := TX2) (N := 4) hF in_X2 hw hK 5 rfl rfl 2 (by decide) q_67 rfl dX2_begin_1 ?_
  refine cs_vv hF (c_X3_wipe l D cy ad S 17 (by decide)) (cwV 0 hts g_X2_31 rfl rfl rfl kk_X3_wipe ⟨Nat.le_of_ble_eq_true rfl, Nat.le_of_ble_eq_true rfl⟩) (cs_recvR hK hw (by decide)) hw hK hS rfl hl.1 [] rfl (Nat.le_of_ble_eq_true rfl) dX2_begin_4 (fun S_1 H locs hq hw hS => ?_)
  replace hRes := cs_letE hq hRes
  clear hq
  refine lv_aload_n hx hb dX2_begin_7 rfl (lv_at hl 0 rfl) ?_
  refine cs_get (C := RX2) (T := TX2) (N := 4) hF in_X2 hw hK 5 rfl rfl 3 (by decide) q_68 rfl dX2_begin_8 ?_
  refine cs_vv hF (c_X3_empty l D cy ad S_1 18 (by decide)) (cwV 0 hts g_X2_34 rfl rfl rfl kk_X3_empty ⟨Nat.le_of_ble_eq_true rfl, Nat.le_of_ble_eq_true rfl⟩) (cs_recvR hK hw (by decide)) hw hK hS rfl hl.1 [] rfl (Nat.le_of_ble_eq_true rfl) dX2_begin_11 (fun S_2 H locs hq hw hS => ?_)
  replace hRes := cs_letE hq hRes
  clear hq
  exact cs_vret hF hr hlk hw hK hS dX2_begin_14 hRes
theorem kk_X2_begin : yX2_begin.cls = RX2 ∧ yX2_begin.cls ≠ "java/lang/invoke/MethodHandle" ∧ yX2_begin.cls ≠ "java/lang/invoke/VarHandle" ∧ (parseMethodDescriptor yX2_begin.desc).map (fun d => d.parameters.length) = some 0 := by decide +kernel
theorem g_X2_37 : GoodIn cs_WS (wsV RX2 37 RX3 yX3_at (cs_ws yX3_at cX3_at 2 (some .int))) := cs_goodV q_79 q_50 q_51 q_10 q_47
theorem g_X2_41 : GoodIn cs_WS (wsV RX2 41 RX3 yX3_write (cs_ws yX3_write cX3_write 3 none)) := cs_goodV q_80 q_58 q_59 q_10 q_54
def m_X2_gather_L3 (j1 : Nat) (u2 : Int32) (u3 : Int32) : Nat → Int32 → cs_St → Int32 × cs_St
  | 0, _, S => (0, S)
  | n + 1, v4, S => (if u3 ≤ v4 then (v4, S) else cs_let (m_X3_at S j1 v4) (fun r_2 => cs_let (m_X3_write S 17 r_2 1) (fun S_3 => m_X2_gather_L3 j1 u2 u3 n (v4 + 1) S_3)))
theorem m_X2_gather_L3_s {j1 : Nat} {u2 : Int32} {u3 : Int32} {n : Nat} {v4 : Int32} {S : cs_St} : m_X2_gather_L3 j1 u2 u3 (n + 1) v4 S = (if u3 ≤ v4 then (v4, S) else cs_let (m_X3_at S j1 v4) (fun r_2 => cs_let (m_X3_write S 17 r_2 1) (fun S_3 => m_X2_gather_L3 j1 u2 u3 n (v4 + 1) S_3))) := rfl
def m_X2_gather (S : cs_St) (j1 : Nat) (a2 : Int32) (a3 : Int32) : cs_St := cs_let (m_X2_gather_L3 j1 a2 a3 cs_N a2 S) (fun T_4 => T_4.2)
set_option maxHeartbeats 4000000 in
set_option maxRecDepth 100000 in
theorem c_X2_gather (l : Launch) (D : va_G) (cy : ClassId) (ad : Nat → Nat) (S : cs_St) (j1 : Nat) (a2 : Int32) (a3 : Int32) (hj1 : j1 < 19) : Met l yX2_gather (cs_ws yX2_gather cX2_gather 5 none) (cs_rm 1 22) (cs_Pc D cy ad [.ref (ad 5), .ref (ad (6 + 2 * j1)), .int a2, .int a3] S) (cs_Qv D cy ad (fun S1 => S1 = m_X2_gather S j1 a2 a3)) 0 0 (cs_A ad) := by
  refine cs_of RX2 (by decide) rfl (Nat.le_of_ble_eq_true rfl) ?_
  intro p e s m below meth c hF hr hlk hw hK ls hl
  obtain ⟨hx, hb, hml, hown, hts⟩ := id hF
  have hS : va_S (cs_A ad) s.heap s.heap [] := va_S.rf
  have hl : lv_has ls 5 [(0, .ref (ad 5)), (1, .ref (ad (6 + 2 * j1))), (2, .int a2), (3, .int a3)] := hl
  generalize hRes : m_X2_gather S j1 a2 a3 = Res
  unfold m_X2_gather at hRes
  refine lv_iload_n hx hb dX2_gather_0 rfl (lv_at hl 2 rfl) ?_
  refine lv_istore (lv' := [(4, .int a2), (0, .ref (ad 5)), (1, .ref (ad (6 + 2 * j1))), (2, .int a2), (3, .int a3)]) hx hb dX2_gather_1 hl (by decide) rfl (fun ls hl => ?_)
  -- the loop at 3
  obtain ⟨T_4, hq⟩ : ∃ z, z = m_X2_gather_L3 j1 a2 a3 cs_N a2 S := ⟨_, rfl⟩
  replace hRes := cs_letE hq hRes
  have hk : ∀ (H : Heap) (locs : List Loc) (ls : Array Slot), cs_w D cy ad T_4.2 H → va_S (cs_A ad) s.heap H locs → lv_has ls 5 [(4, .int T_4.1), (0, .ref (ad 5)), (1, .ref (ad (6 + 2 * j1))), (2, .int a2), (3, .int a3)] → W p l e (cs_rm 1 22) s m ([.ref (ad 5), .ref (ad (6 + 2 * j1)), .int a2, .int a3]).toArray below meth c H locs 0 0 (MQ below (cs_Qv D cy ad (fun S1 => S1 = Res)) ([.ref (ad 5), .ref (ad (6 + 2 * j1)), .int a2, .int a3]).toArray s 0 0 (cs_A ad)) (F0 m 29 ls []) := by
    intro H locs ls hw hS hl
    exact cs_vret hF hr hlk hw hK hS dX2_gather_29 hRes
  have lp : ∀ (n : Nat) (v4 : Int32) (S : cs_St) (H : Heap) (locs : List Loc), cs_w D cy ad S H → va_S (cs_A ad) s.heap H locs → ∀ (ls : Array Slot), lv_has ls 5 [(4, .int v4), (0, .ref (ad 5)), (1, .ref (ad (6 + 2 * j1))), (2, .int a2), (3, .int a3)] → (2147483647 - v4.toInt < (n : Int) ∧ 0 < n) → m_X2_gather_L3 j1 a2 a3 n v4 S = T_4 → W p l e (cs_rm 1 22) s m ([.ref (ad 5), .ref (ad (6 + 2 * j1)), .int a2, .int a3]).toArray below meth c H locs 0 0 (MQ below (cs_Qv D cy ad (fun S1 => S1 = Res)) ([.ref (ad 5), .ref (ad (6 + 2 * j1)), .int a2, .int a3]).toArray s 0 0 (cs_A ad)) (F0 m 3 ls []) := by
    intro n
    induction n with
    | zero => intro v4 S H locs hw hS ls hl hm; exact absurd hm.2 (Nat.lt_irrefl 0)
    | succ n ih =>
      intro v4 S H locs hw hS ls hl hm hE
      replace hE := m_X2_gather_L3_s.symm.trans hE
      refine lv_iload hx hb dX2_gather_3 (lv_at hl 0 rfl) ?_
      refine lv_iload_n hx hb dX2_gather_5 rfl (lv_at hl 4 rfl) ?_
      refine lv_icmp_ge (tgt := 29) hx hb dX2_gather_6 (by decide) (fun c_1 => ?_) (fun c_1 => ?_)
      · replace hE := cs_T c_1 hE
        subst hE
        exact hk _ _ _ hw hS (lv_sub hl [0, 1, 2, 3, 4] rfl)
      · replace hE := cs_F c_1 hE
        refine lv_aload_n hx hb dX2_gather_9 rfl (lv_at hl 1 rfl) ?_
        refine cs_get (C := RX2) (T := TX2) (N := 4) hF in_X2 hw hK 5 rfl rfl 2 (by decide) q_67 rfl dX2_gather_10 ?_
        refine lv_aload_n hx hb dX2_gather_13 rfl (lv_at hl 2 rfl) ?_
        refine lv_iload hx hb dX2_gather_14 (lv_at hl 0 rfl) ?_
        refine cs_vir hF (c_X3_at l D cy ad S j1 v4 hj1) (cwV 1 hts g_X2_37 rfl rfl rfl kk_X3_at ⟨Nat.le_of_ble_eq_true rfl, Nat.le_of_ble_eq_true rfl⟩) (cs_recvR hK hw hj1) hw hK hS rfl hl.1 [.ref (ad 40)] rfl (Nat.le_of_ble_eq_true rfl) dX2_gather_16 (fun r_2 H locs hq hw hS => ?_)
        replace hE := cs_letE hq hE
        clear hq
        refine lv_iconst (v := 1) hx hb dX2_gather_19 (by decide) ?_
        refine cs_vv hF (c_X3_write l D cy ad S 17 r_2 1 (by decide) (fun h => absurd h (by decide))) (cwV 2 hts g_X2_41 rfl rfl rfl kk_X3_write ⟨Nat.le_of_ble_eq_true rfl, Nat.le_of_ble_eq_true rfl⟩) (cs_recvR hK hw (by decide)) hw hK hS rfl hl.1 [] rfl (Nat.le_of_ble_eq_true rfl) dX2_gather_20 (fun S_3 H locs hq hw hS => ?_)
        replace hE := cs_letE hq hE
        clear hq
        refine lv_iinc (v := v4 + 1) (lv' := [(4, .int (v4 + 1)), (0, .ref (ad 5)), (1, .ref (ad (6 + 2 * j1))), (2, .int a2), (3, .int a3)]) hx hb dX2_gather_23 hl (k := 0) rfl rfl (by decide) rfl (fun ls hl => ?_)
        refine lv_goto (tgt := 3) hx hb dX2_gather_26 (by decide) ?_
        exact ih (v4 + 1) S_3 _ _ hw hS _ (lv_sub hl [0, 1, 2, 3, 4] rfl) (cs_up hm.1 c_1) hE
  exact lp cs_N a2 S _ _ hw hS _ (lv_sub hl [0, 1, 2, 3, 4] rfl) (cs_up0 a2) hq.symm
theorem kk_X2_gather : yX2_gather.cls = RX2 ∧ yX2_gather.cls ≠ "java/lang/invoke/MethodHandle" ∧ yX2_gather.cls ≠ "java/lang/invoke/VarHandle" ∧ (parseMethodDescriptor yX2_gather.desc).map (fun d => d.parameters.length) = some 3 := by decide +kernel
theorem g_X2_50 : GoodIn cs_WS (wsV RX2 50 RX3 yX3_length (cs_ws yX3_length cX3_length 1 (some .int))) := cs_goodV q_87 q_20 q_21 q_10 q_15
theorem g_X2_54 : GoodIn cs_WS (wsV RX2 54 RX1 yX1_key (cs_ws yX1_key cX1_key 2 (some .int))) := cs_goodV q_88 q_89 q_90 q_91 q_48
theorem g_X2_57 : GoodIn cs_WS (wsV RX2 57 RX5 yX5_see (cs_ws yX5_see cX5_see 4 (some .boolean))) := cs_goodV q_92 q_93 q_94 q_95 q_81
theorem g_X2_63 : GoodIn cs_WS (wsV RX2 63 RX3 yX3_append (cs_ws yX3_append cX3_append 2 none)) := cs_goodV q_96 q_97 q_98 q_10 q_85
def m_X2_keepNeeded_L4 : Nat → Int32 → Int32 → cs_St → Int32 × Int32 × cs_St
  | 0, _, _, S => (0, 0, S)
  | n + 1, v1, v2, S => cs_let (m_X3_length S 7) (fun r_1 => (if r_1 ≤ v2 then (v1, v2, S) else cs_let (m_X3_at S 7 v2) (fun r_3 => cs_let (m_X3_at S 17 r_3) (fun r_4 => (if r_4 = 1 then (if v1 = 0 then cs_let (m_X3_append S 18 r_3) (fun S_8 => m_X2_keepNeeded_L4 n r_3 (v2 + 1) S_8) else cs_let (m_X1_key S v1) (fun r_9 => cs_let (m_X1_key S r_3) (fun r_10 => (if r_9 = r_10 then cs_let (m_X5_see S r_3 v1) (fun r_13 => (if r_13 = 0 then m_X2_keepNeeded_L4 n r_3 (v2 + 1) S else cs_let (m_X3_append S 18 r_3) (fun S_15 => m_X2_keepNeeded_L4 n r_3 (v2 + 1) S_15))) else cs_let (m_X3_append S 18 r_3) (fun S_17 => m_X2_keepNeeded_L4 n r_3 (v2 + 1) S_17))))) else m_X2_keepNeeded_L4 n v1 (v2 + 1) S)))))
theorem m_X2_keepNeeded_L4_s {n : Nat} {v1 : Int32} {v2 : Int32} {S : cs_St} : m_X2_keepNeeded_L4 (n + 1) v1 v2 S = cs_let (m_X3_length S 7) (fun r_1 => (if r_1 ≤ v2 then (v1, v2, S) else cs_let (m_X3_at S 7 v2) (fun r_3 => cs_let (m_X3_at S 17 r_3) (fun r_4 => (if r_4 = 1 then (if v1 = 0 then cs_let (m_X3_append S 18 r_3) (fun S_8 => m_X2_keepNeeded_L4 n r_3 (v2 + 1) S_8) else cs_let (m_X1_key S v1) (fun r_9 => cs_let (m_X1_key S r_3) (fun r_10 => (if r_9 = r_10 then cs_let (m_X5_see S r_3 v1) (fun r_13 => (if r_13 = 0 then m_X2_keepNeeded_L4 n r_3 (v2 + 1) S else cs_let (m_X3_append S 18 r_3) (fun S_15 => m_X2_keepNeeded_L4 n r_3 (v2 + 1) S_15))) else cs_let (m_X3_append S 18 r_3) (fun S_17 => m_X2_keepNeeded_L4 n r_3 (v2 + 1) S_17))))) else m_X2_keepNeeded_L4 n v1 (v2 + 1) S))))) := rfl
def m_X2_keepNeeded (S : cs_St) : cs_St := cs_let (m_X2_keepNeeded_L4 cs_N 0 0 S) (fun T_18 => T_18.2.2)
set_option maxHeartbeats 4000000 in
set_option maxRecDepth 100000 in
theorem c_X2_keepNeeded (l : Launch) (D : va_G) (cy : ClassId) (ad : Nat → Nat) (S : cs_St) : Met l yX2_keepNeeded (cs_ws yX2_keepNeeded cX2_keepNeeded 5 none) (cs_rm 2 44) (cs_Pc D cy ad [.ref (ad 5)] S) (cs_Qv D cy ad (fun S1 => S1 = m_X2_keepNeeded S)) 0 0 (cs_A ad) := by
  refine cs_of RX2 (by decide) rfl (Nat.le_of_ble_eq_true rfl) ?_
  intro p e s m below meth c hF hr hlk hw hK ls hl
  obtain ⟨hx, hb, hml, hown, hts⟩ := id hF
  have hS : va_S (cs_A ad) s.heap s.heap [] := va_S.rf
  have hl : lv_has ls 5 [(0, .ref (ad 5))] := hl
  generalize hRes : m_X2_keepNeeded S = Res
  unfold m_X2_keepNeeded at hRes
  refine lv_iconst (v := 0) hx hb dX2_keepNeeded_0 (by decide) ?_
  refine lv_istore_n (lv' := [(1, .int 0), (0, .ref (ad 5))]) hx hb dX2_keepNeeded_1 rfl hl (by decide) rfl (fun ls hl => ?_)
  refine lv_iconst (v := 0) hx hb dX2_keepNeeded_2 (by decide) ?_
  refine lv_istore_n (lv' := [(2, .int 0), (1, .int 0), (0, .ref (ad 5))]) hx hb dX2_keepNeeded_3 rfl hl (by decide) rfl (fun ls hl => ?_)
  -- the loop at 4
  obtain ⟨T_18, hq⟩ : ∃ z, z = m_X2_keepNeeded_L4 cs_N 0 0 S := ⟨_, rfl⟩
  replace hRes := cs_letE hq hRes
  have hk : ∀ (H : Heap) (locs : List Loc) (ls : Array Slot), cs_w D cy ad T_18.2.2 H → va_S (cs_A ad) s.heap H locs → lv_has ls 5 [(2, .int T_18.2.1), (1, .int T_18.1), (0, .ref (ad 5))] → W p l e (cs_rm 2 44) s m ([.ref (ad 5)]).toArray below meth c H locs 0 0 (MQ below (cs_Qv D cy ad (fun S1 => S1 = Res)) ([.ref (ad 5)]).toArray s 0 0 (cs_A ad)) (F0 m 105 ls []) := by
    intro H locs ls hw hS hl
    exact cs_vret hF hr hlk hw hK hS dX2_keepNeeded_105 hRes
  have lp : ∀ (n : Nat) (v1 : Int32) (v2 : Int32) (S : cs_St) (H : Heap) (locs : List Loc), cs_w D cy ad S H → va_S (cs_A ad) s.heap H locs → ∀ (ls : Array Slot), lv_has ls 5 [(2, .int v2), (1, .int v1), (0, .ref (ad 5))] → (2147483647 - v2.toInt < (n : Int) ∧ 0 < n) → m_X2_keepNeeded_L4 n v1 v2 S = T_18 → W p l e (cs_rm 2 44) s m ([.ref (ad 5)]).toArray below meth c H locs 0 0 (MQ below (cs_Qv D cy ad (fun S1 => S1 = Res)) ([.ref (ad 5)]).toArray s 0 0 (cs_A ad)) (F0 m 4 ls []) := by
    intro n
    induction n with
    | zero => intro v1 v2 S H locs hw hS ls hl hm; exact absurd hm.2 (Nat.lt_irrefl 0)
    | succ n ih =>
      intro v1 v2 S H locs hw hS ls hl hm hE
      replace hE := m_X2_keepNeeded_L4_s.symm.trans hE
      refine lv_iload_n hx hb dX2_keepNeeded_4 rfl (lv_at hl 0 rfl) ?_
      refine lv_aload_n hx hb dX2_keepNeeded_5 rfl (lv_at hl 2 rfl) ?_
      refine cs_get (C := RX2) (T := TX2) (N := 4) hF in_X2 hw hK 5 rfl rfl 0 (by decide) q_69 rfl dX2_keepNeeded_6 ?_
      refine cs_getN (C := RX1) (T := TX1) (N := 3) hF in_X1 hw hK 2 rfl rfl 2 (by decide) (List.mem_of_getElem? (i := 3) rfl) rfl dX2_keepNeeded_9 ?_
      refine cs_vir hF (c_X3_length l D cy ad S 7 (by decide)) (cwV 0 hts g_X2_50 rfl rfl rfl kk_X3_length ⟨Nat.le_of_ble_eq_true rfl, Nat.le_of_ble_eq_true rfl⟩) (cs_recvR hK hw (by decide)) hw hK hS rfl hl.1 [.int v2] rfl (Nat.le_of_ble_eq_true rfl) dX2_keepNeeded_12 (fun r_1 H locs hq hw hS => ?_)
      replace hE := cs_letE hq hE
      clear hq
      refine lv_icmp_ge (tgt := 105) hx hb dX2_keepNeeded_15 (by decide) (fun c_2 => ?_) (fun c_2 => ?_)
      · replace hE := cs_T c_2 hE
        subst hE
        exact hk _ _ _ hw hS (lv_sub hl [0, 1, 2] rfl)
      · replace hE := cs_F c_2 hE
        refine lv_aload_n hx hb dX2_keepNeeded_18 rfl (lv_at hl 2 rfl) ?_
        refine cs_get (C := RX2) (T := TX2) (N := 4) hF in_X2 hw hK 5 rfl rfl 0 (by decide) q_69 rfl dX2_keepNeeded_19 ?_
        refine cs_getN (C := RX1) (T := TX1) (N := 3) hF in_X1 hw hK 2 rfl rfl 2 (by decide) (List.mem_of_getElem? (i := 3) rfl) rfl dX2_keepNeeded_22 ?_
        refine lv_iload_n hx hb dX2_keepNeeded_25 rfl (lv_at hl 0 rfl) ?_
        refine cs_vir hF (c_X3_at l D cy ad S 7 v2 (by decide)) (cwV 1 hts g_X2_37 rfl rfl rfl kk_X3_at ⟨Nat.le_of_ble_eq_true rfl, Nat.le_of_ble_eq_true rfl⟩) (cs_recvR hK hw (by decide)) hw hK hS rfl hl.1 [] rfl (Nat.le_of_ble_eq_true rfl) dX2_keepNeeded_26 (fun r_3 H locs hq hw hS => ?_)
        replace hE := cs_letE hq hE
        clear hq
        refine lv_istore_n (lv' := [(3, .int r_3), (2, .int v2), (1, .int v1), (0, .ref (ad 5))]) hx hb dX2_keepNeeded_29 rfl hl (by decide) rfl (fun ls hl => ?_)
        refine lv_aload_n hx hb dX2_keepNeeded_30 rfl (lv_at hl 3 rfl) ?_
        refine cs_get (C := RX2) (T := TX2) (N := 4) hF in_X2 hw hK 5 rfl rfl 2 (by decide) q_67 rfl dX2_keepNeeded_31 ?_
        refine lv_iload_n hx hb dX2_keepNeeded_34 rfl (lv_at hl 0 rfl) ?_
        refine cs_vir hF (c_X3_at l D cy ad S 17 r_3 (by decide)) (cwV 1 hts g_X2_37 rfl rfl rfl kk_X3_at ⟨Nat.le_of_ble_eq_true rfl, Nat.le_of_ble_eq_true rfl⟩) (cs_recvR hK hw (by decide)) hw hK hS rfl hl.1 [] rfl (Nat.le_of_ble_eq_true rfl) dX2_keepNeeded_35 (fun r_4 H locs hq hw hS => ?_)
        replace hE := cs_letE hq hE
        clear hq
        refine lv_iconst (v := 1) hx hb dX2_keepNeeded_38 (by decide) ?_
        refine lv_icmp_ne (tgt := 99) hx hb dX2_keepNeeded_39 (by decide) (fun c_5 => ?_) (fun c_5 => ?_)
        · replace hE := cs_F c_5 hE
          refine lv_iinc (v := v2 + 1) (lv' := [(2, .int (v2 + 1)), (3, .int r_3), (1, .int v1), (0, .ref (ad 5))]) hx hb dX2_keepNeeded_99 hl (k := 1) rfl rfl (by decide) rfl (fun ls hl => ?_)
          refine lv_goto (tgt := 4) hx hb dX2_keepNeeded_102 (by decide) ?_
          exact ih v1 (v2 + 1) S _ _ hw hS _ (lv_sub hl [0, 2, 3] rfl) (cs_up hm.1 c_2) hE
        · replace hE := cs_T c_5 hE
          refine lv_iload_n hx hb dX2_keepNeeded_42 rfl (lv_at hl 2 rfl) ?_
          refine lv_if_eq (tgt := 65) hx hb dX2_keepNeeded_43 (by decide) (fun c_6 => ?_) (fun c_6 => ?_)
          · replace hE := cs_T c_6 hE
            refine lv_iconst (v := 1) hx hb dX2_keepNeeded_65 (by decide) ?_
            refine lv_goto (tgt := 70) hx hb dX2_keepNeeded_66 (by decide) ?_
            refine lv_istore (lv' := [(4, .int 1), (3, .int r_3), (2, .int v2), (1, .int v1), (0, .ref (ad 5))]) hx hb dX2_keepNeeded_70 hl (by decide) rfl (fun ls hl => ?_)
            refine lv_iload hx hb dX2_keepNeeded_72 (lv_at hl 0 rfl) ?_
            refine lv_if_ne (tgt := 89) hx hb dX2_keepNeeded_74 (by decide) (fun c_7 => ?_) (fun c_7 => False.elim (by revert c_7; decide))
            refine lv_aload_n hx hb dX2_keepNeeded_89 rfl (lv_at hl 4 rfl) ?_
            refine cs_get (C := RX2) (T := TX2) (N := 4) hF in_X2 hw hK 5 rfl rfl 3 (by decide) q_68 rfl dX2_keepNeeded_90 ?_
            refine lv_iload_n hx hb dX2_keepNeeded_93 rfl (lv_at hl 1 rfl) ?_
            refine cs_vv hF (c_X3_append l D cy ad S 18 r_3 (by decide) (by decide)) (cwV 1 hts g_X2_63 rfl rfl rfl kk_X3_append ⟨Nat.le_of_ble_eq_true rfl, Nat.le_of_ble_eq_true rfl⟩) (cs_recvR hK hw (by decide)) hw hK hS rfl hl.1 [] rfl (Nat.le_of_ble_eq_true rfl) dX2_keepNeeded_94 (fun S_8 H locs hq hw hS => ?_)
            replace hE := cs_letE hq hE
            clear hq
            refine lv_iload_n hx hb dX2_keepNeeded_97 rfl (lv_at hl 1 rfl) ?_
            refine lv_istore_n (lv' := [(1, .int r_3), (4, .int 1), (3, .int r_3), (2, .int v2), (0, .ref (ad 5))]) hx hb dX2_keepNeeded_98 rfl hl (by decide) rfl (fun ls hl => ?_)
            refine lv_iinc (v := v2 + 1) (lv' := [(2, .int (v2 + 1)), (1, .int r_3), (4, .int 1), (3, .int r_3), (0, .ref (ad 5))]) hx hb dX2_keepNeeded_99 hl (k := 3) rfl rfl (by decide) rfl (fun ls hl => ?_)
            refine lv_goto (tgt := 4) hx hb dX2_keepNeeded_102 (by decide) ?_
            exact ih r_3 (v2 + 1) S_8 _ _ hw hS _ (lv_sub hl [0, 1, 4] rfl) (cs_up hm.1 c_2) hE
          · replace hE := cs_F c_6 hE
            refine lv_aload_n hx hb dX2_keepNeeded_46 rfl (lv_at hl 3 rfl) ?_
            refine cs_get (C := RX2) (T := TX2) (N := 4) hF in_X2 hw hK 5 rfl rfl 0 (by decide) q_69 rfl dX2_keepNeeded_47 ?_
            refine lv_iload_n hx hb dX2_keepNeeded_50 rfl (lv_at hl 2 rfl) ?_
            refine cs_vir hF (c_X1_key l D cy ad S v1) (cwV 1 hts g_X2_54 rfl rfl rfl kk_X1_key ⟨Nat.le_of_ble_eq_true rfl, Nat.le_of_ble_eq_true rfl⟩) (cs_recv hK hw (ci := 1) 2 rfl rfl) hw hK hS rfl hl.1 [] rfl (Nat.le_of_ble_eq_true rfl) dX2_keepNeeded_51 (fun r_9 H locs hq hw hS => ?_)
            replace hE := cs_letE hq hE
            clear hq
            refine lv_aload_n hx hb dX2_keepNeeded_54 rfl (lv_at hl 3 rfl) ?_
            refine cs_get (C := RX2) (T := TX2) (N := 4) hF in_X2 hw hK 5 rfl rfl 0 (by decide) q_69 rfl dX2_keepNeeded_55 ?_
            refine lv_iload_n hx hb dX2_keepNeeded_58 rfl (lv_at hl 0 rfl) ?_
            refine cs_vir hF (c_X1_key l D cy ad S r_3) (cwV 1 hts g_X2_54 rfl rfl rfl kk_X1_key ⟨Nat.le_of_ble_eq_true rfl, Nat.le_of_ble_eq_true rfl⟩) (cs_recv hK hw (ci := 1) 2 rfl rfl) hw hK hS rfl hl.1 [.int r_9] rfl (Nat.le_of_ble_eq_true rfl) dX2_keepNeeded_59 (fun r_10 H locs hq hw hS => ?_)
            replace hE := cs_letE hq hE
            clear hq
            refine lv_icmp_eq (tgt := 69) hx hb dX2_keepNeeded_62 (by decide) (fun c_11 => ?_) (fun c_11 => ?_)
            · replace hE := cs_T c_11 hE
              refine lv_iconst (v := 0) hx hb dX2_keepNeeded_69 (by decide) ?_
              refine lv_istore (lv' := [(4, .int 0), (3, .int r_3), (2, .int v2), (1, .int v1), (0, .ref (ad 5))]) hx hb dX2_keepNeeded_70 hl (by decide) rfl (fun ls hl => ?_)
              refine lv_iload hx hb dX2_keepNeeded_72 (lv_at hl 0 rfl) ?_
              refine lv_if_ne (tgt := 89) hx hb dX2_keepNeeded_74 (by decide) (fun c_12 => False.elim (by revert c_12; decide)) (fun c_12 => ?_)
              refine lv_aload_n hx hb dX2_keepNeeded_77 rfl (lv_at hl 4 rfl) ?_
              refine cs_get (C := RX2) (T := TX2) (N := 4) hF in_X2 hw hK 5 rfl rfl 1 (by decide) q_70 rfl dX2_keepNeeded_78 ?_
              refine lv_iload_n hx hb dX2_keepNeeded_81 rfl (lv_at hl 1 rfl) ?_
              refine lv_iload_n hx hb dX2_keepNeeded_82 rfl (lv_at hl 3 rfl) ?_
              refine cs_vir hF (c_X5_see l D cy ad S r_3 v1) (cwV 2 hts g_X2_57 rfl rfl rfl kk_X5_see ⟨Nat.le_of_ble_eq_true rfl, Nat.le_of_ble_eq_true rfl⟩) (cs_recv hK hw (ci := 5) 3 rfl rfl) hw hK hS rfl hl.1 [] rfl (Nat.le_of_ble_eq_true rfl) dX2_keepNeeded_83 (fun r_13 H locs hq hw hS => ?_)
              replace hE := cs_letE hq hE
              clear hq
              refine lv_if_eq (tgt := 97) hx hb dX2_keepNeeded_86 (by decide) (fun c_14 => ?_) (fun c_14 => ?_)
              · replace hE := cs_T c_14 hE
                refine lv_iload_n hx hb dX2_keepNeeded_97 rfl (lv_at hl 1 rfl) ?_
                refine lv_istore_n (lv' := [(1, .int r_3), (4, .int 0), (3, .int r_3), (2, .int v2), (0, .ref (ad 5))]) hx hb dX2_keepNeeded_98 rfl hl (by decide) rfl (fun ls hl => ?_)
                refine lv_iinc (v := v2 + 1) (lv' := [(2, .int (v2 + 1)), (1, .int r_3), (4, .int 0), (3, .int r_3), (0, .ref (ad 5))]) hx hb dX2_keepNeeded_99 hl (k := 3) rfl rfl (by decide) rfl (fun ls hl => ?_)
                refine lv_goto (tgt := 4) hx hb dX2_keepNeeded_102 (by decide) ?_
                exact ih r_3 (v2 + 1) S _ _ hw hS _ (lv_sub hl [0, 1, 4] rfl) (cs_up hm.1 c_2) hE
              · replace hE := cs_F c_14 hE
                refine lv_aload_n hx hb dX2_keepNeeded_89 rfl (lv_at hl 4 rfl) ?_
                refine cs_get (C := RX2) (T := TX2) (N := 4) hF in_X2 hw hK 5 rfl rfl 3 (by decide) q_68 rfl dX2_keepNeeded_90 ?_
                refine lv_iload_n hx hb dX2_keepNeeded_93 rfl (lv_at hl 1 rfl) ?_
                refine cs_vv hF (c_X3_append l D cy ad S 18 r_3 (by decide) (by decide)) (cwV 1 hts g_X2_63 rfl rfl rfl kk_X3_append ⟨Nat.le_of_ble_eq_true rfl, Nat.le_of_ble_eq_true rfl⟩) (cs_recvR hK hw (by decide)) hw hK hS rfl hl.1 [] rfl (Nat.le_of_ble_eq_true rfl) dX2_keepNeeded_94 (fun S_15 H locs hq hw hS => ?_)
                replace hE := cs_letE hq hE
                clear hq
                refine lv_iload_n hx hb dX2_keepNeeded_97 rfl (lv_at hl 1 rfl) ?_
                refine lv_istore_n (lv' := [(1, .int r_3), (4, .int 0), (3, .int r_3), (2, .int v2), (0, .ref (ad 5))]) hx hb dX2_keepNeeded_98 rfl hl (by decide) rfl (fun ls hl => ?_)
                refine lv_iinc (v := v2 + 1) (lv' := [(2, .int (v2 + 1)), (1, .int r_3), (4, .int 0), (3, .int r_3), (0, .ref (ad 5))]) hx hb dX2_keepNeeded_99 hl (k := 3) rfl rfl (by decide) rfl (fun ls hl => ?_)
                refine lv_goto (tgt := 4) hx hb dX2_keepNeeded_102 (by decide) ?_
                exact ih r_3 (v2 + 1) S_15 _ _ hw hS _ (lv_sub hl [0, 1, 4] rfl) (cs_up hm.1 c_2) hE
            · replace hE := cs_F c_11 hE
              refine lv_iconst (v := 1) hx hb dX2_keepNeeded_65 (by decide) ?_
              refine lv_goto (tgt := 70) hx hb dX2_keepNeeded_66 (by decide) ?_
              refine lv_istore (lv' := [(4, .int 1), (3, .int r_3), (2, .int v2), (1, .int v1), (0, .ref (ad 5))]) hx hb dX2_keepNeeded_70 hl (by decide) rfl (fun ls hl => ?_)
              refine lv_iload hx hb dX2_keepNeeded_72 (lv_at hl 0 rfl) ?_
              refine lv_if_ne (tgt := 89) hx hb dX2_keepNeeded_74 (by decide) (fun c_16 => ?_) (fun c_16 => False.elim (by revert c_16; decide))
              refine lv_aload_n hx hb dX2_keepNeeded_89 rfl (lv_at hl 4 rfl) ?_
              refine cs_get (C := RX2) (T := TX2) (N := 4) hF in_X2 hw hK 5 rfl rfl 3 (by decide) q_68 rfl dX2_keepNeeded_90 ?_
              refine lv_iload_n hx hb dX2_keepNeeded_93 rfl (lv_at hl 1 rfl) ?_
              refine cs_vv hF (c_X3_append l D cy ad S 18 r_3 (by decide) (by decide)) (cwV 1 hts g_X2_63 rfl rfl rfl kk_X3_append ⟨Nat.le_of_ble_eq_true rfl, Nat.le_of_ble_eq_true rfl⟩) (cs_recvR hK hw (by decide)) hw hK hS rfl hl.1 [] rfl (Nat.le_of_ble_eq_true rfl) dX2_keepNeeded_94 (fun S_17 H locs hq hw hS => ?_)
              replace hE := cs_letE hq hE
              clear hq
              refine lv_iload_n hx hb dX2_keepNeeded_97 rfl (lv_at hl 1 rfl) ?_
              refine lv_istore_n (lv' := [(1, .int r_3), (4, .int 1), (3, .int r_3), (2, .int v2), (0, .ref (ad 5))]) hx hb dX2_keepNeeded_98 rfl hl (by decide) rfl (fun ls hl => ?_)
              refine lv_iinc (v := v2 + 1) (lv' := [(2, .int (v2 + 1)), (1, .int r_3), (4, .int 1), (3, .int r_3), (0, .ref (ad 5))]) hx hb dX2_keepNeeded_99 hl (k := 3) rfl rfl (by decide) rfl (fun ls hl => ?_)
              refine lv_goto (tgt := 4) hx hb dX2_keepNeeded_102 (by decide) ?_
              exact ih r_3 (v2 + 1) S_17 _ _ hw hS _ (lv_sub hl [0, 1, 4] rfl) (cs_up hm.1 c_2) hE
  exact lp cs_N 0 0 S _ _ hw hS _ (lv_sub hl [0, 1, 2] rfl) (cs_up0 0) hq.symm
theorem kk_X2_keepNeeded : yX2_keepNeeded.cls = RX2 ∧ yX2_keepNeeded.cls ≠ "java/lang/invoke/MethodHandle" ∧ yX2_keepNeeded.cls ≠ "java/lang/invoke/VarHandle" ∧ (parseMethodDescriptor yX2_keepNeeded.desc).map (fun d => d.parameters.length) = some 0 := by decide +kernel
theorem g_X2_66 : GoodIn cs_WS (wsV RX2 66 RX1 yX1_isStone (cs_ws yX1_isStone cX1_isStone 2 (some .boolean))) := cs_goodV q_100 q_101 q_102 q_91 q_53
def m_X2_keepThere_L4 (u1 : Int32) : Nat → Int32 → Int32 → cs_St → Int32 × Int32 × cs_St
  | 0, _, _, S => (0, 0, S)
  | n + 1, v2, v3, S => cs_let (m_X3_length S 7) (fun r_1 => (if r_1 ≤ v3 then (v2, v3, S) else cs_let (m_X3_at S 7 v3) (fun r_3 => cs_let (m_X1_key S r_3) (fun r_4 => cs_let (m_X3_at S 17 r_3) (fun r_5 => (if r_5 = 1 then (if u1 < r_3 then m_X2_keepThere_L4 u1 n v2 (v3 + 1) S else (if r_4 = v2 then m_X2_keepThere_L4 u1 n v2 (v3 + 1) S else cs_let (m_X1_isStone S r_3) (fun r_9 => (if r_9 = 0 then cs_let (m_X3_append S 18 r_3) (fun S_11 => m_X2_keepThere_L4 u1 n r_4 (v3 + 1) S_11) else m_X2_keepThere_L4 u1 n r_4 (v3 + 1) S)))) else m_X2_keepThere_L4 u1 n v2 (v3 + 1) S))))))
theorem m_X2_keepThere_L4_s {u1 : Int32} {n : Nat} {v2 : Int32} {v3 : Int32} {S : cs_St} : m_X2_keepThere_L4 u1 (n + 1) v2 v3 S = cs_let (m_X3_length S 7) (fun r_1 => (if r_1 ≤ v3 then (v2, v3, S) else cs_let (m_X3_at S 7 v3) (fun r_3 => cs_let (m_X1_key S r_3) (fun r_4 => cs_let (m_X3_at S 17 r_3) (fun r_5 => (if r_5 = 1 then (if u1 < r_3 then m_X2_keepThere_L4 u1 n v2 (v3 + 1) S else (if r_4 = v2 then m_X2_keepThere_L4 u1 n v2 (v3 + 1) S else cs_let (m_X1_isStone S r_3) (fun r_9 => (if r_9 = 0 then cs_let (m_X3_append S 18 r_3) (fun S_11 => m_X2_keepThere_L4 u1 n r_4 (v3 + 1) S_11) else m_X2_keepThere_L4 u1 n r_4 (v3 + 1) S)))) else m_X2_keepThere_L4 u1 n v2 (v3 + 1) S)))))) := rfl
def m_X2_keepThere (S : cs_St) (a1 : Int32) : cs_St := cs_let (m_X2_keepThere_L4 a1 cs_N (-1) 0 S) (fun T_12 => T_12.2.2)
set_option maxHeartbeats 4000000 in
set_option maxRecDepth 100000 in
theorem c_X2_keepThere (l : Launch) (D : va_G) (cy : ClassId) (ad : Nat → Nat) (S : cs_St) (a1 : Int32) : Met l yX2_keepThere (cs_ws yX2_keepThere cX2_keepThere 6 none) (cs_rm 2 42) (cs_Pc D cy ad [.ref (ad 5), .int a1] S) (cs_Qv D cy ad (fun S1 => S1 = m_X2_keepThere S a1)) 0 0 (cs_A ad) := by
  refine cs_of RX2 (by decide) rfl (Nat.le_of_ble_eq_true rfl) ?_
  intro p e s m below meth c hF hr hlk hw hK ls hl
  obtain ⟨hx, hb, hml, hown, hts⟩ := id hF
  have hS : va_S (cs_A ad) s.heap s.heap [] := va_S.rf
  have hl : lv_has ls 6 [(0, .ref (ad 5)), (1, .int a1)] := hl
  generalize hRes : m_X2_keepThere S a1 = Res
  unfold m_X2_keepThere at hRes
  refine lv_iconst (v := -1) hx hb dX2_keepThere_0 (by decide) ?_
  refine lv_istore_n (lv' := [(2, .int (-1)), (0, .ref (ad 5)), (1, .int a1)]) hx hb dX2_keepThere_1 rfl hl (by decide) rfl (fun ls hl => ?_)
  refine lv_iconst (v := 0) hx hb dX2_keepThere_2 (by decide) ?_
  refine lv_istore_n (lv' := [(3, .int 0), (2, .int (-1)), (0, .ref (ad 5)), (1, .int a1)]) hx hb dX2_keepThere_3 rfl hl (by decide) rfl (fun ls hl => ?_)
  -- the loop at 4
  obtain ⟨T_12, hq⟩ : ∃ z, z = m_X2_keepThere_L4 a1 cs_N (-1) 0 S := ⟨_, rfl⟩
  replace hRes := cs_letE hq hRes
  have hk : ∀ (H : Heap) (locs : List Loc) (ls : Array Slot), cs_w D cy ad T_12.2.2 H → va_S (cs_A ad) s.heap H locs → lv_has ls 6 [(3, .int T_12.2.1), (2, .int T_12.1), (0, .ref (ad 5)), (1, .int a1)] → W p l e (cs_rm 2 42) s m ([.ref (ad 5), .int a1]).toArray below meth c H locs 0 0 (MQ below (cs_Qv D cy ad (fun S1 => S1 = Res)) ([.ref (ad 5), .int a1]).toArray s 0 0 (cs_A ad)) (F0 m 97 ls []) := by
    intro H locs ls hw hS hl
    exact cs_vret hF hr hlk hw hK hS dX2_keepThere_97 hRes
  have lp : ∀ (n : Nat) (v2 : Int32) (v3 : Int32) (S : cs_St) (H : Heap) (locs : List Loc), cs_w D cy ad S H → va_S (cs_A ad) s.heap H locs → ∀ (ls : Array Slot), lv_has ls 6 [(3, .int v3), (2, .int v2), (0, .ref (ad 5)), (1, .int a1)] → (2147483647 - v3.toInt < (n : Int) ∧ 0 < n) → m_X2_keepThere_L4 a1 n v2 v3 S = T_12 → W p l e (cs_rm 2 42) s m ([.ref (ad 5), .int a1]).toArray below meth c H locs 0 0 (MQ below (cs_Qv D cy ad (fun S1 => S1 = Res)) ([.ref (ad 5), .int a1]).toArray s 0 0 (cs_A ad)) (F0 m 4 ls []) := by
    intro n
    induction n with
    | zero => intro v2 v3 S H locs hw hS ls hl hm; exact absurd hm.2 (Nat.lt_irrefl 0)
    | succ n ih =>
      intro v2 v3 S H locs hw hS ls hl hm hE
      replace hE := m_X2_keepThere_L4_s.symm.trans hE
      refine lv_iload_n hx hb dX2_keepThere_4 rfl (lv_at hl 0 rfl) ?_
      refine lv_aload_n hx hb dX2_keepThere_5 rfl (lv_at hl 2 rfl) ?_
      refine cs_get (C := RX2) (T := TX2) (N := 4) hF in_X2 hw hK 5 rfl rfl 0 (by decide) q_69 rfl dX2_keepThere_6 ?_
      refine cs_getN (C := RX1) (T := TX1) (N := 3) hF in_X1 hw hK 2 rfl rfl 2 (by decide) (List.mem_of_getElem? (i := 3) rfl) rfl dX2_keepThere_9 ?_
      refine cs_vir hF (c_X3_length l D cy ad S 7 (by decide)) (cwV 0 hts g_X2_50 rfl rfl rfl kk_X3_length ⟨Nat.le_of_ble_eq_true rfl, Nat.le_of_ble_eq_true rfl⟩) (cs_recvR hK hw (by decide)) hw hK hS rfl hl.1 [.int v3] rfl (Nat.le_of_ble_eq_true rfl) dX2_keepThere_12 (fun r_1 H locs hq hw hS => ?_)
      replace hE := cs_letE hq hE
      clear hq
      refine lv_icmp_ge (tgt := 97) hx hb dX2_keepThere_15 (by decide) (fun c_2 => ?_) (fun c_2 => ?_)
      · replace hE := cs_T c_2 hE
        subst hE
        exact hk _ _ _ hw hS (lv_sub hl [0, 1, 2, 3] rfl)
      · replace hE := cs_F c_2 hE
        refine lv_aload_n hx hb dX2_keepThere_18 rfl (lv_at hl 2 rfl) ?_
        refine cs_get (C := RX2) (T := TX2) (N := 4) hF in_X2 hw hK 5 rfl rfl 0 (by decide) q_69 rfl dX2_keepThere_19 ?_
        refine cs_getN (C := RX1) (T := TX1) (N := 3) hF in_X1 hw hK 2 rfl rfl 2 (by decide) (List.mem_of_getElem? (i := 3) rfl) rfl dX2_keepThere_22 ?_
        refine lv_iload_n hx hb dX2_keepThere_25 rfl (lv_at hl 0 rfl) ?_
        refine cs_vir hF (c_X3_at l D cy ad S 7 v3 (by decide)) (cwV 1 hts g_X2_37 rfl rfl rfl kk_X3_at ⟨Nat.le_of_ble_eq_true rfl, Nat.le_of_ble_eq_true rfl⟩) (cs_recvR hK hw (by decide)) hw hK hS rfl hl.1 [] rfl (Nat.le_of_ble_eq_true rfl) dX2_keepThere_26 (fun r_3 H locs hq hw hS => ?_)
        replace hE := cs_letE hq hE
        clear hq
        refine lv_istore (lv' := [(4, .int r_3), (3, .int v3), (2, .int v2), (0, .ref (ad 5)), (1, .int a1)]) hx hb dX2_keepThere_29 hl (by decide) rfl (fun ls hl => ?_)
        refine lv_aload_n hx hb dX2_keepThere_31 rfl (lv_at hl 3 rfl) ?_
        refine cs_get (C := RX2) (T := TX2) (N := 4) hF in_X2 hw hK 5 rfl rfl 0 (by decide) q_69 rfl dX2_keepThere_32 ?_
        refine lv_iload hx hb dX2_keepThere_35 (lv_at hl 0 rfl) ?_
        refine cs_vir hF (c_X1_key l D cy ad S r_3) (cwV 1 hts g_X2_54 rfl rfl rfl kk_X1_key ⟨Nat.le_of_ble_eq_true rfl, Nat.le_of_ble_eq_true rfl⟩) (cs_recv hK hw (ci := 1) 2 rfl rfl) hw hK hS rfl hl.1 [] rfl (Nat.le_of_ble_eq_true rfl) dX2_keepThere_37 (fun r_4 H locs hq hw hS => ?_)
        replace hE := cs_letE hq hE
        clear hq
        refine lv_istore (lv' := [(5, .int r_4), (4, .int r_3), (3, .int v3), (2, .int v2), (0, .ref (ad 5)), (1, .int a1)]) hx hb dX2_keepThere_40 hl (by decide) rfl (fun ls hl => ?_)
        refine lv_aload_n hx hb dX2_keepThere_42 rfl (lv_at hl 4 rfl) ?_
        refine cs_get (C := RX2) (T := TX2) (N := 4) hF in_X2 hw hK 5 rfl rfl 2 (by decide) q_67 rfl dX2_keepThere_43 ?_
        refine lv_iload hx hb dX2_keepThere_46 (lv_at hl 1 rfl) ?_
        refine cs_vir hF (c_X3_at l D cy ad S 17 r_3 (by decide)) (cwV 1 hts g_X2_37 rfl rfl rfl kk_X3_at ⟨Nat.le_of_ble_eq_true rfl, Nat.le_of_ble_eq_true rfl⟩) (cs_recvR hK hw (by decide)) hw hK hS rfl hl.1 [] rfl (Nat.le_of_ble_eq_true rfl) dX2_keepThere_48 (fun r_5 H locs hq hw hS => ?_)
        replace hE := cs_letE hq hE
        clear hq
        refine lv_iconst (v := 1) hx hb dX2_keepThere_51 (by decide) ?_
        refine lv_icmp_ne (tgt := 91) hx hb dX2_keepThere_52 (by decide) (fun c_6 => ?_) (fun c_6 => ?_)
        · replace hE := cs_F c_6 hE
          refine lv_iinc (v := v3 + 1) (lv' := [(3, .int (v3 + 1)), (5, .int r_4), (4, .int r_3), (2, .int v2), (0, .ref (ad 5)), (1, .int a1)]) hx hb dX2_keepThere_91 hl (k := 2) rfl rfl (by decide) rfl (fun ls hl => ?_)
          refine lv_goto (tgt := 4) hx hb dX2_keepThere_94 (by decide) ?_
          exact ih v2 (v3 + 1) S _ _ hw hS _ (lv_sub hl [0, 3, 4, 5] rfl) (cs_up hm.1 c_2) hE
        · replace hE := cs_T c_6 hE
          refine lv_iload hx hb dX2_keepThere_55 (lv_at hl 1 rfl) ?_
          refine lv_iload_n hx hb dX2_keepThere_57 rfl (lv_at hl 5 rfl) ?_
          refine lv_icmp_gt (tgt := 91) hx hb dX2_keepThere_58 (by decide) (fun c_7 => ?_) (fun c_7 => ?_)
          · replace hE := cs_T c_7 hE
            refine lv_iinc (v := v3 + 1) (lv' := [(3, .int (v3 + 1)), (5, .int r_4), (4, .int r_3), (2, .int v2), (0, .ref (ad 5)), (1, .int a1)]) hx hb dX2_keepThere_91 hl (k := 2) rfl rfl (by decide) rfl (fun ls hl => ?_)
            refine lv_goto (tgt := 4) hx hb dX2_keepThere_94 (by decide) ?_
            exact ih v2 (v3 + 1) S _ _ hw hS _ (lv_sub hl [0, 3, 4, 5] rfl) (cs_up hm.1 c_2) hE
          · replace hE := cs_F c_7 hE
            refine lv_iload hx hb dX2_keepThere_61 (lv_at hl 0 rfl) ?_
            refine lv_iload_n hx hb dX2_keepThere_63 rfl (lv_at hl 3 rfl) ?_
            refine lv_icmp_eq (tgt := 91) hx hb dX2_keepThere_64 (by decide) (fun c_8 => ?_) (fun c_8 => ?_)
            · replace hE := cs_T c_8 hE
              refine lv_iinc (v := v3 + 1) (lv' := [(3, .int (v3 + 1)), (5, .int r_4), (4, .int r_3), (2, .int v2), (0, .ref (ad 5)), (1, .int a1)]) hx hb dX2_keepThere_91 hl (k := 2) rfl rfl (by decide) rfl (fun ls hl => ?_)
              refine lv_goto (tgt := 4) hx hb dX2_keepThere_94 (by decide) ?_
              exact ih v2 (v3 + 1) S _ _ hw hS _ (lv_sub hl [0, 3, 4, 5] rfl) (cs_up hm.1 c_2) hE
            · replace hE := cs_F c_8 hE
              refine lv_iload hx hb dX2_keepThere_67 (lv_at hl 0 rfl) ?_
              refine lv_istore_n (lv' := [(2, .int r_4), (5, .int r_4), (4, .int r_3), (3, .int v3), (0, .ref (ad 5)), (1, .int a1)]) hx hb dX2_keepThere_69 rfl hl (by decide) rfl (fun ls hl => ?_)
              refine lv_aload_n hx hb dX2_keepThere_70 rfl (lv_at hl 4 rfl) ?_
              refine cs_get (C := RX2) (T := TX2) (N := 4) hF in_X2 hw hK 5 rfl rfl 0 (by decide) q_69 rfl dX2_keepThere_71 ?_
              refine lv_iload hx hb dX2_keepThere_74 (lv_at hl 2 rfl) ?_
              refine cs_vir hF (c_X1_isStone l D cy ad S r_3) (cwV 1 hts g_X2_66 rfl rfl rfl kk_X1_isStone ⟨Nat.le_of_ble_eq_true rfl, Nat.le_of_ble_eq_true rfl⟩) (cs_recv hK hw (ci := 1) 2 rfl rfl) hw hK hS rfl hl.1 [] rfl (Nat.le_of_ble_eq_true rfl) dX2_keepThere_76 (fun r_9 H locs hq hw hS => ?_)
              replace hE := cs_letE hq hE
              clear hq
              refine lv_if_ne (tgt := 91) hx hb dX2_keepThere_79 (by decide) (fun c_10 => ?_) (fun c_10 => ?_)
              · replace hE := cs_F c_10 hE
                refine lv_iinc (v := v3 + 1) (lv' := [(3, .int (v3 + 1)), (2, .int r_4), (5, .int r_4), (4, .int r_3), (0, .ref (ad 5)), (1, .int a1)]) hx hb dX2_keepThere_91 hl (k := 3) rfl rfl (by decide) rfl (fun ls hl => ?_)
                refine lv_goto (tgt := 4) hx hb dX2_keepThere_94 (by decide) ?_
                exact ih r_4 (v3 + 1) S _ _ hw hS _ (lv_sub hl [0, 1, 4, 5] rfl) (cs_up hm.1 c_2) hE
              · replace hE := cs_T c_10 hE
                refine lv_aload_n hx hb dX2_keepThere_82 rfl (lv_at hl 4 rfl) ?_
                refine cs_get (C := RX2) (T := TX2) (N := 4) hF in_X2 hw hK 5 rfl rfl 3 (by decide) q_68 rfl dX2_keepThere_83 ?_
                refine lv_iload hx hb dX2_keepThere_86 (lv_at hl 2 rfl) ?_
                refine cs_vv hF (c_X3_append l D cy ad S 18 r_3 (by decide) (by decide)) (cwV 1 hts g_X2_63 rfl rfl rfl kk_X3_append ⟨Nat.le_of_ble_eq_true rfl, Nat.le_of_ble_eq_true rfl⟩) (cs_recvR hK hw (by decide)) hw hK hS rfl hl.1 [] rfl (Nat.le_of_ble_eq_true rfl) dX2_keepThere_88 (fun S_11 H locs hq hw hS => ?_)
                replace hE := cs_letE hq hE
                clear hq
                refine lv_iinc (v := v3 + 1) (lv' := [(3, .int (v3 + 1)), (2, .int r_4), (5, .int r_4), (4, .int r_3), (0, .ref (ad 5)), (1, .int a1)]) hx hb dX2_keepThere_91 hl (k := 3) rfl rfl (by decide) rfl (fun ls hl => ?_)
                refine lv_goto (tgt := 4) hx hb dX2_keepThere_94 (by decide) ?_
                exact ih r_4 (v3 + 1) S_11 _ _ hw hS _ (lv_sub hl [0, 1, 4, 5] rfl) (cs_up hm.1 c_2) hE
  exact lp cs_N (-1) 0 S _ _ hw hS _ (lv_sub hl [0, 1, 2, 3] rfl) (cs_up0 0) hq.symm
theorem kk_X2_keepThere : yX2_keepThere.cls = RX2 ∧ yX2_keepThere.cls ≠ "java/lang/invoke/MethodHandle" ∧ yX2_keepThere.cls ≠ "java/lang/invoke/VarHandle" ∧ (parseMethodDescriptor yX2_keepThere.desc).map (fun d => d.parameters.length) = some 1 := by decide +kernel
theorem g_X2_70 : GoodIn cs_WS (wsV RX2 70 RX1 yX1_newest (cs_ws yX1_newest cX1_newest 1 (some .int))) := cs_goodV q_104 q_105 q_106 q_91 q_46
theorem g_X2_73 : GoodIn cs_WS (wsV RX2 73 RX1 yX1_find (cs_ws yX1_find cX1_find 8 (some .int))) := cs_goodV q_107 q_108 q_109 q_91 q_63
theorem g_X2_77 : GoodIn cs_WS (wsV RX2 77 RX3 yX3_cut (cs_ws yX3_cut cX3_cut 3 none)) := cs_goodV q_110 q_30 q_31 q_10 q_23
def m_X2_dropStones_L16 (j1 : Nat) (u2 : Int32) : Nat → Int32 → Int32 → Int32 → cs_St → Int32 × Int32 × Int32 × cs_St
  | 0, _, _, _, S => (0, 0, 0, S)
  | n + 1, v3, v4, v5, S => (if v5 < 0 then (v3, v4, v5, S) else cs_let (m_X3_at S 18 v5) (fun r_3 => cs_let (m_X1_key S r_3) (fun r_4 => (if v4 = 0 then (if r_4 = v3 then m_X2_dropStones_L16 j1 u2 n r_4 0 (v5 + (-1)) S else cs_let (m_X1_isStone S r_3) (fun r_17 => (if r_17 = 0 then m_X2_dropStones_L16 j1 u2 n r_4 0 (v5 + (-1)) S else cs_let (m_X3_length S j1) (fun r_19 => cs_let (m_X1_newest S) (fun r_20 => cs_let (m_X1_find S j1 u2 r_19 r_4 r_20) (fun r_21 => (if r_21 = 0 then cs_let (m_X3_cut S 18 v5 (v5 + 1)) (fun S_23 => m_X2_dropStones_L16 j1 u2 n r_4 1 (v5 + (-1)) S_23) else m_X2_dropStones_L16 j1 u2 n r_4 0 (v5 + (-1)) S))))))) else cs_let (m_X1_isStone S r_3) (fun r_7 => (if r_7 = 0 then m_X2_dropStones_L16 j1 u2 n r_4 0 (v5 + (-1)) S else cs_let (m_X3_length S j1) (fun r_9 => cs_let (m_X1_newest S) (fun r_10 => cs_let (m_X1_find S j1 u2 r_9 r_4 r_10) (fun r_11 => (if r_11 = 0 then cs_let (m_X3_cut S 18 v5 (v5 + 1)) (fun S_13 => m_X2_dropStones_L16 j1 u2 n r_4 1 (v5 + (-1)) S_13) else m_X2_dropStones_L16 j1 u2 n r_4 0 (v5 + (-1)) S))))))))))
theorem m_X2_dropStones_L16_s {j1 : Nat} {u2 : Int32} {n : Nat} {v3 : Int32} {v4 : Int32} {v5 : Int32} {S : cs_St} : m_X2_dropStones_L16 j1 u2 (n + 1) v3 v4 v5 S = (if v5 < 0 then (v3, v4, v5, S) else cs_let (m_X3_at S 18 v5) (fun r_3 => cs_let (m_X1_key S r_3) (fun r_4 => (if v4 = 0 then (if r_4 = v3 then m_X2_dropStones_L16 j1 u2 n r_4 0 (v5 + (-1)) S else cs_let (m_X1_isStone S r_3) (fun r_17 => (if r_17 = 0 then m_X2_dropStones_L16 j1 u2 n r_4 0 (v5 + (-1)) S else cs_let (m_X3_length S j1) (fun r_19 => cs_let (m_X1_newest S) (fun r_20 => cs_let (m_X1_find S j1 u2 r_19 r_4 r_20) (fun r_21 => (if r_21 = 0 then cs_let (m_X3_cut S 18 v5 (v5 + 1)) (fun S_23 => m_X2_dropStones_L16 j1 u2 n r_4 1 (v5 + (-1)) S_23) else m_X2_dropStones_L16 j1 u2 n r_4 0 (v5 + (-1)) S))))))) else cs_let (m_X1_isStone S r_3) (fun r_7 => (if r_7 = 0 then m_X2_dropStones_L16 j1 u2 n r_4 0 (v5 + (-1)) S else cs_let (m_X3_length S j1) (fun r_9 => cs_let (m_X1_newest S) (fun r_10 => cs_let (m_X1_find S j1 u2 r_9 r_4 r_10) (fun r_11 => (if r_11 = 0 then cs_let (m_X3_cut S 18 v5 (v5 + 1)) (fun S_13 => m_X2_dropStones_L16 j1 u2 n r_4 1 (v5 + (-1)) S_13) else m_X2_dropStones_L16 j1 u2 n r_4 0 (v5 + (-1)) S)))))))))) := rfl
def m_X2_dropStones (S : cs_St) (j1 : Nat) (a2 : Int32) : cs_St := cs_let (m_X3_length S 18) (fun r_1 => cs_let (m_X2_dropStones_L16 j1 a2 cs_N (-1) 0 (r_1 - 1) S) (fun T_24 => T_24.2.2.2))
set_option maxHeartbeats 4000000 in
set_option maxRecDepth 100000 in
theorem c_X2_dropStones (l : Launch) (D : va_G) (cy : ClassId) (ad : Nat → Nat) (S : cs_St) (j1 : Nat) (a2 : Int32) (hj1 : j1 < 19) : Met l yX2_dropStones (cs_ws yX2_dropStones cX2_dropStones 8 none) (cs_rm 2 82) (cs_Pc D cy ad [.ref (ad 5), .ref (ad (6 + 2 * j1)), .int a2] S) (cs_Qv D cy ad (fun S1 => S1 = m_X2_dropStones S j1 a2)) 0 0 (cs_A ad) := by
  refine cs_of RX2 (by decide) rfl (Nat.le_of_ble_eq_true rfl) ?_
  intro p e s m below meth c hF hr hlk hw hK ls hl
  obtain ⟨hx, hb, hml, hown, hts⟩ := id hF
  have hS : va_S (cs_A ad) s.heap s.heap [] := va_S.rf
  have hl : lv_has ls 8 [(0, .ref (ad 5)), (1, .ref (ad (6 + 2 * j1))), (2, .int a2)] := hl
  generalize hRes : m_X2_dropStones S j1 a2 = Res
  unfold m_X2_dropStones at hRes
  refine lv_iconst (v := -1) hx hb dX2_dropStones_0 (by decide) ?_
  refine lv_istore_n (lv' := [(3, .int (-1)), (0, .ref (ad 5)), (1, .ref (ad (6 + 2 * j1))), (2, .int a2)]) hx hb dX2_dropStones_1 rfl hl (by decide) rfl (fun ls hl => ?_)
  refine lv_iconst (v := 0) hx hb dX2_dropStones_2 (by decide) ?_
  refine lv_istore (lv' := [(4, .int 0), (3, .int (-1)), (0, .ref (ad 5)), (1, .ref (ad (6 + 2 * j1))), (2, .int a2)]) hx hb dX2_dropStones_3 hl (by decide) rfl (fun ls hl => ?_)
  refine lv_aload_n hx hb dX2_dropStones_5 rfl (lv_at hl 2 rfl) ?_
  refine cs_get (C := RX2) (T := TX2) (N := 4) hF in_X2 hw hK 5 rfl rfl 3 (by decide) q_68 rfl dX2_dropStones_6 ?_
  refine cs_vir hF (c_X3_length l D cy ad S 18 (by decide)) (cwV 0 hts g_X2_50 rfl rfl rfl kk_X3_length ⟨Nat.le_of_ble_eq_true rfl, Nat.le_of_ble_eq_true rfl⟩) (cs_recvR hK hw (by decide)) hw hK hS rfl hl.1 [] rfl (Nat.le_of_ble_eq_true rfl) dX2_dropStones_9 (fun r_1 H locs hq hw hS => ?_)
  replace hRes := cs_letE hq hRes
  clear hq
  refine lv_iconst (v := 1) hx hb dX2_dropStones_12 (by decide) ?_
  refine lv_isub hx hb dX2_dropStones_13 ?_
  refine lv_istore (lv' := [(5, .int (r_1 - 1)), (4, .int 0), (3, .int (-1)), (0, .ref (ad 5)), (1, .ref (ad (6 + 2 * j1))), (2, .int a2)]) hx hb dX2_dropStones_14 hl (by decide) rfl (fun ls hl => ?_)
  -- the loop at 16
  obtain ⟨T_24, hq⟩ : ∃ z, z = m_X2_dropStones_L16 j1 a2 cs_N (-1) 0 (r_1 - 1) S := ⟨_, rfl⟩
  replace hRes := cs_letE hq hRes
  have hk : ∀ (H : Heap) (locs : List Loc) (ls : Array Slot), cs_w D cy ad T_24.2.2.2 H → va_S (cs_A ad) s.heap H locs → lv_has ls 8 [(5, .int T_24.2.2.1), (4, .int T_24.2.1), (3, .int T_24.1), (0, .ref (ad 5)), (1, .ref (ad (6 + 2 * j1))), (2, .int a2)] → W p l e (cs_rm 2 82) s m ([.ref (ad 5), .ref (ad (6 + 2 * j1)), .int a2]).toArray below meth c H locs 0 0 (MQ below (cs_Qv D cy ad (fun S1 => S1 = Res)) ([.ref (ad 5), .ref (ad (6 + 2 * j1)), .int a2]).toArray s 0 0 (cs_A ad)) (F0 m 131 ls []) := by
    intro H locs ls hw hS hl
    exact cs_vret hF hr hlk hw hK hS dX2_dropStones_131 hRes
  have lp : ∀ (n : Nat) (v3 : Int32) (v4 : Int32) (v5 : Int32) (S : cs_St) (H : Heap) (locs : List Loc), cs_w D cy ad S H → va_S (cs_A ad) s.heap H locs → ∀ (ls : Array Slot), lv_has ls 8 [(5, .int v5), (4, .int v4), (3, .int v3), (0, .ref (ad 5)), (1, .ref (ad (6 + 2 * j1))), (2, .int a2)] → (v5.toInt + 1 < (n : Int) ∧ 0 < n) → m_X2_dropStones_L16 j1 a2 n v3 v4 v5 S = T_24 → W p l e (cs_rm 2 82) s m ([.ref (ad 5), .ref (ad (6 + 2 * j1)), .int a2]).toArray below meth c H locs 0 0 (MQ below (cs_Qv D cy ad (fun S1 => S1 = Res)) ([.ref (ad 5), .ref (ad (6 + 2 * j1)), .int a2]).toArray s 0 0 (cs_A ad)) (F0 m 16 ls []) := by
    intro n
    induction n with
    | zero => intro v3 v4 v5 S H locs hw hS ls hl hm; exact absurd hm.2 (Nat.lt_irrefl 0)
    | succ n ih =>
      intro v3 v4 v5 S H locs hw hS ls hl hm hE
      replace hE := m_X2_dropStones_L16_s.symm.trans hE
      refine lv_iload hx hb dX2_dropStones_16 (lv_at hl 0 rfl) ?_
      refine lv_if_lt (tgt := 131) hx hb dX2_dropStones_18 (by decide) (fun c_2 => ?_) (fun c_2 => ?_)
      · replace hE := cs_T c_2 hE
        subst hE
        exact hk _ _ _ hw hS (lv_sub hl [0, 1, 2, 3, 4, 5] rfl)
      · replace hE := cs_F c_2 hE
        refine lv_aload_n hx hb dX2_dropStones_21 rfl (lv_at hl 3 rfl) ?_
        refine cs_get (C := RX2) (T := TX2) (N := 4) hF in_X2 hw hK 5 rfl rfl 3 (by decide) q_68 rfl dX2_dropStones_22 ?_
        refine lv_iload hx hb dX2_dropStones_25 (lv_at hl 0 rfl) ?_
        refine cs_vir hF (c_X3_at l D cy ad S 18 v5 (by decide)) (cwV 1 hts g_X2_37 rfl rfl rfl kk_X3_at ⟨Nat.le_of_ble_eq_true rfl, Nat.le_of_ble_eq_true rfl⟩) (cs_recvR hK hw (by decide)) hw hK hS rfl hl.1 [] rfl (Nat.le_of_ble_eq_true rfl) dX2_dropStones_27 (fun r_3 H locs hq hw hS => ?_)
        replace hE := cs_letE hq hE
        clear hq
        refine lv_istore (lv' := [(6, .int r_3), (5, .int v5), (4, .int v4), (3, .int v3), (0, .ref (ad 5)), (1, .ref (ad (6 + 2 * j1))), (2, .int a2)]) hx hb dX2_dropStones_30 hl (by decide) rfl (fun ls hl => ?_)
        refine lv_aload_n hx hb dX2_dropStones_32 rfl (lv_at hl 4 rfl) ?_
        refine cs_get (C := RX2) (T := TX2) (N := 4) hF in_X2 hw hK 5 rfl rfl 0 (by decide) q_69 rfl dX2_dropStones_33 ?_
        refine lv_iload hx hb dX2_dropStones_36 (lv_at hl 0 rfl) ?_
        refine cs_vir hF (c_X1_key l D cy ad S r_3) (cwV 1 hts g_X2_54 rfl rfl rfl kk_X1_key ⟨Nat.le_of_ble_eq_true rfl, Nat.le_of_ble_eq_true rfl⟩) (cs_recv hK hw (ci := 1) 2 rfl rfl) hw hK hS rfl hl.1 [] rfl (Nat.le_of_ble_eq_true rfl) dX2_dropStones_38 (fun r_4 H locs hq hw hS => ?_)
        replace hE := cs_letE hq hE
        clear hq
        refine lv_istore (lv' := [(7, .int r_4), (6, .int r_3), (5, .int v5), (4, .int v4), (3, .int v3), (0, .ref (ad 5)), (1, .ref (ad (6 + 2 * j1))), (2, .int a2)]) hx hb dX2_dropStones_41 hl (by decide) rfl (fun ls hl => ?_)
        refine lv_iload hx hb dX2_dropStones_43 (lv_at hl 3 rfl) ?_
        refine lv_if_ne (tgt := 54) hx hb dX2_dropStones_45 (by decide) (fun c_5 => ?_) (fun c_5 => ?_)
        · replace hE := cs_F c_5 hE
          refine lv_iconst (v := 1) hx hb dX2_dropStones_54 (by decide) ?_
          refine lv_goto (tgt := 59) hx hb dX2_dropStones_55 (by decide) ?_
          refine lv_istore (lv' := [(4, .int 1), (7, .int r_4), (6, .int r_3), (5, .int v5), (3, .int v3), (0, .ref (ad 5)), (1, .ref (ad (6 + 2 * j1))), (2, .int a2)]) hx hb dX2_dropStones_59 hl (by decide) rfl (fun ls hl => ?_)
          refine lv_iload hx hb dX2_dropStones_61 (lv_at hl 1 rfl) ?_
          refine lv_istore_n (lv' := [(3, .int r_4), (4, .int 1), (7, .int r_4), (6, .int r_3), (5, .int v5), (0, .ref (ad 5)), (1, .ref (ad (6 + 2 * j1))), (2, .int a2)]) hx hb dX2_dropStones_63 rfl hl (by decide) rfl (fun ls hl => ?_)
          refine lv_iload hx hb dX2_dropStones_64 (lv_at hl 1 rfl) ?_
          refine lv_if_eq (tgt := 122) hx hb dX2_dropStones_66 (by decide) (fun c_6 => False.elim (by revert c_6; decide)) (fun c_6 => ?_)
          refine lv_aload_n hx hb dX2_dropStones_69 rfl (lv_at hl 5 rfl) ?_
          refine cs_get (C := RX2) (T := TX2) (N := 4) hF in_X2 hw hK 5 rfl rfl 0 (by decide) q_69 rfl dX2_dropStones_70 ?_
          refine lv_iload hx hb dX2_dropStones_73 (lv_at hl 3 rfl) ?_
          refine cs_vir hF (c_X1_isStone l D cy ad S r_3) (cwV 1 hts g_X2_66 rfl rfl rfl kk_X1_isStone ⟨Nat.le_of_ble_eq_true rfl, Nat.le_of_ble_eq_true rfl⟩) (cs_recv hK hw (ci := 1) 2 rfl rfl) hw hK hS rfl hl.1 [] rfl (Nat.le_of_ble_eq_true rfl) dX2_dropStones_75 (fun r_7 H locs hq hw hS => ?_)
          replace hE := cs_letE hq hE
          clear hq
          refine lv_if_eq (tgt := 122) hx hb dX2_dropStones_78 (by decide) (fun c_8 => ?_) (fun c_8 => ?_)
          · replace hE := cs_T c_8 hE
            refine lv_iconst (v := 0) hx hb dX2_dropStones_122 (by decide) ?_
            refine lv_istore (lv' := [(4, .int 0), (3, .int r_4), (7, .int r_4), (6, .int r_3), (5, .int v5), (0, .ref (ad 5)), (1, .ref (ad (6 + 2 * j1))), (2, .int a2)]) hx hb dX2_dropStones_123 hl (by decide) rfl (fun ls hl => ?_)
            refine lv_iinc (v := v5 + (-1)) (lv' := [(5, .int (v5 + (-1))), (4, .int 0), (3, .int r_4), (7, .int r_4), (6, .int r_3), (0, .ref (ad 5)), (1, .ref (ad (6 + 2 * j1))), (2, .int a2)]) hx hb dX2_dropStones_125 hl (k := 4) rfl rfl (by decide) rfl (fun ls hl => ?_)
            refine lv_goto (tgt := 16) hx hb dX2_dropStones_128 (by decide) ?_
            exact ih r_4 0 (v5 + (-1)) S _ _ hw hS _ (lv_sub hl [0, 1, 2, 5, 6, 7] rfl) (cs_dn hm.1 c_2) hE
          · replace hE := cs_F c_8 hE
            refine lv_aload_n hx hb dX2_dropStones_81 rfl (lv_at hl 5 rfl) ?_
            refine cs_get (C := RX2) (T := TX2) (N := 4) hF in_X2 hw hK 5 rfl rfl 0 (by decide) q_69 rfl dX2_dropStones_82 ?_
            refine lv_aload_n hx hb dX2_dropStones_85 rfl (lv_at hl 6 rfl) ?_
            refine lv_iload_n hx hb dX2_dropStones_86 rfl (lv_at hl 7 rfl) ?_
            refine lv_aload_n hx hb dX2_dropStones_87 rfl (lv_at hl 6 rfl) ?_
            refine cs_vir hF (c_X3_length l D cy ad S j1 hj1) (cwV 0 hts g_X2_50 rfl rfl rfl kk_X3_length ⟨Nat.le_of_ble_eq_true rfl, Nat.le_of_ble_eq_true rfl⟩) (cs_recvR hK hw hj1) hw hK hS rfl hl.1 [.int a2, .ref (ad (6 + 2 * j1)), .ref (ad 2)] rfl (Nat.le_of_ble_eq_true rfl) dX2_dropStones_88 (fun r_9 H locs hq hw hS => ?_)
            replace hE := cs_letE hq hE
            clear hq
            refine lv_iload hx hb dX2_dropStones_91 (lv_at hl 2 rfl) ?_
            refine lv_aload_n hx hb dX2_dropStones_93 rfl (lv_at hl 5 rfl) ?_
            refine cs_get (C := RX2) (T := TX2) (N := 4) hF in_X2 hw hK 5 rfl rfl 0 (by decide) q_69 rfl dX2_dropStones_94 ?_
            refine cs_vir hF (c_X1_newest l D cy ad S) (cwV 0 hts g_X2_70 rfl rfl rfl kk_X1_newest ⟨Nat.le_of_ble_eq_true rfl, Nat.le_of_ble_eq_true rfl⟩) (cs_recv hK hw (ci := 1) 2 rfl rfl) hw hK hS rfl hl.1 [.int r_4, .int r_9, .int a2, .ref (ad (6 + 2 * j1)), .ref (ad 2)] rfl (Nat.le_of_ble_eq_true rfl) dX2_dropStones_97 (fun r_10 H locs hq hw hS => ?_)
            replace hE := cs_letE hq hE
            clear hq
            refine cs_vir hF (c_X1_find l D cy ad S j1 a2 r_9 r_4 r_10 hj1) (cwV 5 hts g_X2_73 rfl rfl rfl kk_X1_find ⟨Nat.le_of_ble_eq_true rfl, Nat.le_of_ble_eq_true rfl⟩) (cs_recv hK hw (ci := 1) 2 rfl rfl) hw hK hS rfl hl.1 [] rfl (Nat.le_of_ble_eq_true rfl) dX2_dropStones_100 (fun r_11 H locs hq hw hS => ?_)
            replace hE := cs_letE hq hE
            clear hq
            refine lv_if_ne (tgt := 122) hx hb dX2_dropStones_103 (by decide) (fun c_12 => ?_) (fun c_12 => ?_)
            · replace hE := cs_F c_12 hE
              refine lv_iconst (v := 0) hx hb dX2_dropStones_122 (by decide) ?_
              refine lv_istore (lv' := [(4, .int 0), (3, .int r_4), (7, .int r_4), (6, .int r_3), (5, .int v5), (0, .ref (ad 5)), (1, .ref (ad (6 + 2 * j1))), (2, .int a2)]) hx hb dX2_dropStones_123 hl (by decide) rfl (fun ls hl => ?_)
              refine lv_iinc (v := v5 + (-1)) (lv' := [(5, .int (v5 + (-1))), (4, .int 0), (3, .int r_4), (7, .int r_4), (6, .int r_3), (0, .ref (ad 5)), (1, .ref (ad (6 + 2 * j1))), (2, .int a2)]) hx hb dX2_dropStones_125 hl (k := 4) rfl rfl (by decide) rfl (fun ls hl => ?_)
              refine lv_goto (tgt := 16) hx hb dX2_dropStones_128 (by decide) ?_
              exact ih r_4 0 (v5 + (-1)) S _ _ hw hS _ (lv_sub hl [0, 1, 2, 5, 6, 7] rfl) (cs_dn hm.1 c_2) hE
            · replace hE := cs_T c_12 hE
              refine lv_aload_n hx hb dX2_dropStones_106 rfl (lv_at hl 5 rfl) ?_
              refine cs_get (C := RX2) (T := TX2) (N := 4) hF in_X2 hw hK 5 rfl rfl 3 (by decide) q_68 rfl dX2_dropStones_107 ?_
              refine lv_iload hx hb dX2_dropStones_110 (lv_at hl 4 rfl) ?_
              refine lv_iload hx hb dX2_dropStones_112 (lv_at hl 4 rfl) ?_
              refine lv_iconst (v := 1) hx hb dX2_dropStones_114 (by decide) ?_
              refine lv_iadd hx hb dX2_dropStones_115 ?_
              refine cs_vv hF (c_X3_cut l D cy ad S 18 v5 (v5 + 1) (by decide)) (cwV 2 hts g_X2_77 rfl rfl rfl kk_X3_cut ⟨Nat.le_of_ble_eq_true rfl, Nat.le_of_ble_eq_true rfl⟩) (cs_recvR hK hw (by decide)) hw hK hS rfl hl.1 [] rfl (Nat.le_of_ble_eq_true rfl) dX2_dropStones_116 (fun S_13 H locs hq hw hS => ?_)
              replace hE := cs_letE hq hE
              clear hq
              refine lv_goto (tgt := 125) hx hb dX2_dropStones_119 (by decide) ?_
              refine lv_iinc (v := v5 + (-1)) (lv' := [(5, .int (v5 + (-1))), (3, .int r_4), (4, .int 1), (7, .int r_4), (6, .int r_3), (0, .ref (ad 5)), (1, .ref (ad (6 + 2 * j1))), (2, .int a2)]) hx hb dX2_dropStones_125 hl (k := 4) rfl rfl (by decide) rfl (fun ls hl => ?_)
              refine lv_goto (tgt := 16) hx hb dX2_dropStones_128 (by decide) ?_
              exact ih r_4 1 (v5 + (-1)) S_13 _ _ hw hS _ (lv_sub hl [0, 2, 1, 5, 6, 7] rfl) (cs_dn hm.1 c_2) hE
        · replace hE := cs_T c_5 hE
          refine lv_iload hx hb dX2_dropStones_48 (lv_at hl 0 rfl) ?_
          refine lv_iload_n hx hb dX2_dropStones_50 rfl (lv_at hl 4 rfl) ?_
          refine lv_icmp_eq (tgt := 58) hx hb dX2_dropStones_51 (by decide) (fun c_14 => ?_) (fun c_14 => ?_)
          · replace hE := cs_T c_14 hE
            refine lv_iconst (v := 0) hx hb dX2_dropStones_58 (by decide) ?_
            refine lv_istore (lv' := [(4, .int 0), (7, .int r_4), (6, .int r_3), (5, .int v5), (3, .int v3), (0, .ref (ad 5)), (1, .ref (ad (6 + 2 * j1))), (2, .int a2)]) hx hb dX2_dropStones_59 hl (by decide) rfl (fun ls hl => ?_)
            refine lv_iload hx hb dX2_dropStones_61 (lv_at hl 1 rfl) ?_
            refine lv_istore_n (lv' := [(3, .int r_4), (4, .int 0), (7, .int r_4), (6, .int r_3), (5, .int v5), (0, .ref (ad 5)), (1, .ref (ad (6 + 2 * j1))), (2, .int a2)]) hx hb dX2_dropStones_63 rfl hl (by decide) rfl (fun ls hl => ?_)
            refine lv_iload hx hb dX2_dropStones_64 (lv_at hl 1 rfl) ?_
            refine lv_if_eq (tgt := 122) hx hb dX2_dropStones_66 (by decide) (fun c_15 => ?_) (fun c_15 => False.elim (by revert c_15; decide))
            refine lv_iconst (v := 0) hx hb dX2_dropStones_122 (by decide) ?_
            refine lv_istore (lv' := [(4, .int 0), (3, .int r_4), (7, .int r_4), (6, .int r_3), (5, .int v5), (0, .ref (ad 5)), (1, .ref (ad (6 + 2 * j1))), (2, .int a2)]) hx hb dX2_dropStones_123 hl (by decide) rfl (fun ls hl => ?_)
            refine lv_iinc (v := v5 + (-1)) (lv' := [(5, .int (v5 + (-1))), (4, .int 0), (3, .int r_4), (7, .int r_4), (6, .int r_3), (0, .ref (ad 5)), (1, .ref (ad (6 + 2 * j1))), (2, .int a2)]) hx hb dX2_dropStones_125 hl (k := 4) rfl rfl (by decide) rfl (fun ls hl => ?_)
            refine lv_goto (tgt := 16) hx hb dX2_dropStones_128 (by decide) ?_
            exact ih r_4 0 (v5 + (-1)) S _ _ hw hS _ (lv_sub hl [0, 1, 2, 5, 6, 7] rfl) (cs_dn hm.1 c_2) hE
          · replace hE := cs_F c_14 hE
            refine lv_iconst (v := 1) hx hb dX2_dropStones_54 (by decide) ?_
            refine lv_goto (tgt := 59) hx hb dX2_dropStones_55 (by decide) ?_
            refine lv_istore (lv' := [(4, .int 1), (7, .int r_4), (6, .int r_3), (5, .int v5), (3, .int v3), (0, .ref (ad 5)), (1, .ref (ad (6 + 2 * j1))), (2, .int a2)]) hx hb dX2_dropStones_59 hl (by decide) rfl (fun ls hl => ?_)
            refine lv_iload hx hb dX2_dropStones_61 (lv_at hl 1 rfl) ?_
            refine lv_istore_n (lv' := [(3, .int r_4), (4, .int 1), (7, .int r_4), (6, .int r_3), (5, .int v5), (0, .ref (ad 5)), (1, .ref (ad (6 + 2 * j1))), (2, .int a2)]) hx hb dX2_dropStones_63 rfl hl (by decide) rfl (fun ls hl => ?_)
            refine lv_iload hx hb dX2_dropStones_64 (lv_at hl 1 rfl) ?_
            refine lv_if_eq (tgt := 122) hx hb dX2_dropStones_66 (by decide) (fun c_16 => False.elim (by revert c_16; decide)) (fun c_16 => ?_)
            refine lv_aload_n hx hb dX2_dropStones_69 rfl (lv_at hl 5 rfl) ?_
            refine cs_get (C := RX2) (T := TX2) (N := 4) hF in_X2 hw hK 5 rfl rfl 0 (by decide) q_69 rfl dX2_dropStones_70 ?_
            refine lv_iload hx hb dX2_dropStones_73 (lv_at hl 3 rfl) ?_
            refine cs_vir hF (c_X1_isStone l D cy ad S r_3) (cwV 1 hts g_X2_66 rfl rfl rfl kk_X1_isStone ⟨Nat.le_of_ble_eq_true rfl, Nat.le_of_ble_eq_true rfl⟩) (cs_recv hK hw (ci := 1) 2 rfl rfl) hw hK hS rfl hl.1 [] rfl (Nat.le_of_ble_eq_true rfl) dX2_dropStones_75 (fun r_17 H locs hq hw hS => ?_)
            replace hE := cs_letE hq hE
            clear hq
            refine lv_if_eq (tgt := 122) hx hb dX2_dropStones_78 (by decide) (fun c_18 => ?_) (fun c_18 => ?_)
            · replace hE := cs_T c_18 hE
              refine lv_iconst (v := 0) hx hb dX2_dropStones_122 (by decide) ?_
              refine lv_istore (lv' := [(4, .int 0), (3, .int r_4), (7, .int r_4), (6, .int r_3), (5, .int v5), (0, .ref (ad 5)), (1, .ref (ad (6 + 2 * j1))), (2, .int a2)]) hx hb dX2_dropStones_123 hl (by decide) rfl (fun ls hl => ?_)
              refine lv_iinc (v := v5 + (-1)) (lv' := [(5, .int (v5 + (-1))), (4, .int 0), (3, .int r_4), (7, .int r_4), (6, .int r_3), (0, .ref (ad 5)), (1, .ref (ad (6 + 2 * j1))), (2, .int a2)]) hx hb dX2_dropStones_125 hl (k := 4) rfl rfl (by decide) rfl (fun ls hl => ?_)
              refine lv_goto (tgt := 16) hx hb dX2_dropStones_128 (by decide) ?_
              exact ih r_4 0 (v5 + (-1)) S _ _ hw hS _ (lv_sub hl [0, 1, 2, 5, 6, 7] rfl) (cs_dn hm.1 c_2) hE
            · replace hE := cs_F c_18 hE
              refine lv_aload_n hx hb dX2_dropStones_81 rfl (lv_at hl 5 rfl) ?_
              refine cs_get (C := RX2) (T := TX2) (N := 4) hF in_X2 hw hK 5 rfl rfl 0 (by decide) q_69 rfl dX2_dropStones_82 ?_
              refine lv_aload_n hx hb dX2_dropStones_85 rfl (lv_at hl 6 rfl) ?_
              refine lv_iload_n hx hb dX2_dropStones_86 rfl (lv_at hl 7 rfl) ?_
              refine lv_aload_n hx hb dX2_dropStones_87 rfl (lv_at hl 6 rfl) ?_
              refine cs_vir hF (c_X3_length l D cy ad S j1 hj1) (cwV 0 hts g_X2_50 rfl rfl rfl kk_X3_length ⟨Nat.le_of_ble_eq_true rfl, Nat.le_of_ble_eq_true rfl⟩) (cs_recvR hK hw hj1) hw hK hS rfl hl.1 [.int a2, .ref (ad (6 + 2 * j1)), .ref (ad 2)] rfl (Nat.le_of_ble_eq_true rfl) dX2_dropStones_88 (fun r_19 H locs hq hw hS => ?_)
              replace hE := cs_letE hq hE
              clear hq
              refine lv_iload hx hb dX2_dropStones_91 (lv_at hl 2 rfl) ?_
              refine lv_aload_n hx hb dX2_dropStones_93 rfl (lv_at hl 5 rfl) ?_
              refine cs_get (C := RX2) (T := TX2) (N := 4) hF in_X2 hw hK 5 rfl rfl 0 (by decide) q_69 rfl dX2_dropStones_94 ?_
              refine cs_vir hF (c_X1_newest l D cy ad S) (cwV 0 hts g_X2_70 rfl rfl rfl kk_X1_newest ⟨Nat.le_of_ble_eq_true rfl, Nat.le_of_ble_eq_true rfl⟩) (cs_recv hK hw (ci := 1) 2 rfl rfl) hw hK hS rfl hl.1 [.int r_4, .int r_19, .int a2, .ref (ad (6 + 2 * j1)), .ref (ad 2)] rfl (Nat.le_of_ble_eq_true rfl) dX2_dropStones_97 (fun r_20 H locs hq hw hS => ?_)
              replace hE := cs_letE hq hE
              clear hq
              refine cs_vir hF (c_X1_find l D cy ad S j1 a2 r_19 r_4 r_20 hj1) (cwV 5 hts g_X2_73 rfl rfl rfl kk_X1_find ⟨Nat.le_of_ble_eq_true rfl, Nat.le_of_ble_eq_true rfl⟩) (cs_recv hK hw (ci := 1) 2 rfl rfl) hw hK hS rfl hl.1 [] rfl (Nat.le_of_ble_eq_true rfl) dX2_dropStones_100 (fun r_21 H locs hq hw hS => ?_)
              replace hE := cs_letE hq hE
              clear hq
              refine lv_if_ne (tgt := 122) hx hb dX2_dropStones_103 (by decide) (fun c_22 => ?_) (fun c_22 => ?_)
              · replace hE := cs_F c_22 hE
                refine lv_iconst (v := 0) hx hb dX2_dropStones_122 (by decide) ?_
                refine lv_istore (lv' := [(4, .int 0), (3, .int r_4), (7, .int r_4), (6, .int r_3), (5, .int v5), (0, .ref (ad 5)), (1, .ref (ad (6 + 2 * j1))), (2, .int a2)]) hx hb dX2_dropStones_123 hl (by decide) rfl (fun ls hl => ?_)
                refine lv_iinc (v := v5 + (-1)) (lv' := [(5, .int (v5 + (-1))), (4, .int 0), (3, .int r_4), (7, .int r_4), (6, .int r_3), (0, .ref (ad 5)), (1, .ref (ad (6 + 2 * j1))), (2, .int a2)]) hx hb dX2_dropStones_125 hl (k := 4) rfl rfl (by decide) rfl (fun ls hl => ?_)
                refine lv_goto (tgt := 16) hx hb dX2_dropStones_128 (by decide) ?_
                exact ih r_4 0 (v5 + (-1)) S _ _ hw hS _ (lv_sub hl [0, 1, 2, 5, 6, 7] rfl) (cs_dn hm.1 c_2) hE
              · replace hE := cs_T c_22 hE
                refine lv_aload_n hx hb dX2_dropStones_106 rfl (lv_at hl 5 rfl) ?_
                refine cs_get (C := RX2) (T := TX2) (N := 4) hF in_X2 hw hK 5 rfl rfl 3 (by decide) q_68 rfl dX2_dropStones_107 ?_
                refine lv_iload hx hb dX2_dropStones_110 (lv_at hl 4 rfl) ?_
                refine lv_iload hx hb dX2_dropStones_112 (lv_at hl 4 rfl) ?_
                refine lv_iconst (v := 1) hx hb dX2_dropStones_114 (by decide) ?_
                refine lv_iadd hx hb dX2_dropStones_115 ?_
                refine cs_vv hF (c_X3_cut l D cy ad S 18 v5 (v5 + 1) (by decide)) (cwV 2 hts g_X2_77 rfl rfl rfl kk_X3_cut ⟨Nat.le_of_ble_eq_true rfl, Nat.le_of_ble_eq_true rfl⟩) (cs_recvR hK hw (by decide)) hw hK hS rfl hl.1 [] rfl (Nat.le_of_ble_eq_true rfl) dX2_dropStones_116 (fun S_23 H locs hq hw hS => ?_)
                replace hE := cs_letE hq hE
                clear hq
                refine lv_goto (tgt := 125) hx hb dX2_dropStones_119 (by decide) ?_
                refine lv_iinc (v := v5 + (-1)) (lv' := [(5, .int (v5 + (-1))), (3, .int r_4), (4, .int 1), (7, .int r_4), (6, .int r_3), (0, .ref (ad 5)), (1, .ref (ad (6 + 2 * j1))), (2, .int a2)]) hx hb dX2_dropStones_125 hl (k := 4) rfl rfl (by decide) rfl (fun ls hl => ?_)
                refine lv_goto (tgt := 16) hx hb dX2_dropStones_128 (by decide) ?_
                exact ih r_4 1 (v5 + (-1)) S_23 _ _ hw hS _ (lv_sub hl [0, 2, 1, 5, 6, 7] rfl) (cs_dn hm.1 c_2) hE
  exact lp cs_N (-1) 0 (r_1 - 1) S _ _ hw hS _ (lv_sub hl [0, 1, 2, 3, 4, 5] rfl) (cs_dn0 (r_1 - 1)) hq.symm
theorem kk_X2_dropStones : yX2_dropStones.cls = RX2 ∧ yX2_dropStones.cls ≠ "java/lang/invoke/MethodHandle" ∧ yX2_dropStones.cls ≠ "java/lang/invoke/VarHandle" ∧ (parseMethodDescriptor yX2_dropStones.desc).map (fun d => d.parameters.length) = some 2 := by decide +kernel
def m_X2_pieceEnd_L7 (S : cs_St) (u1 : Int32) (u2 : Int32) : Nat → Int32 → Int32 → Int32
  | 0, _, _ => 0
  | n + 1, v3, v4 => cs_let (m_X3_length S 18) (fun r_1 => (if r_1 < v4 then v3 else cs_let (m_X3_length S 18) (fun r_3 => (if v4 = r_3 then (if v3 ≤ u1 then m_X2_pieceEnd_L7 S u1 u2 n v4 (v4 + 1) else (if (v4 - u1) ≤ u2 then m_X2_pieceEnd_L7 S u1 u2 n v4 (v4 + 1) else v3)) else cs_let (m_X3_at S 18 v4) (fun r_10 => cs_let (m_X1_key S r_10) (fun r_11 => cs_let (m_X3_at S 18 (v4 - 1)) (fun r_12 => cs_let (m_X1_key S r_12) (fun r_13 => (if r_11 = r_13 then m_X2_pieceEnd_L7 S u1 u2 n v3 (v4 + 1) else (if v3 ≤ u1 then m_X2_pieceEnd_L7 S u1 u2 n v4 (v4 + 1) else (if (v4 - u1) ≤ u2 then m_X2_pieceEnd_L7 S u1 u2 n v4 (v4 + 1) else v3)))))))))))
theorem m_X2_pieceEnd_L7_s {S : cs_St} {u1 : Int32} {u2 : Int32} {n : Nat} {v3 : Int32} {v4 : Int32} : m_X2_pieceEnd_L7 S u1 u2 (n + 1) v3 v4 = cs_let (m_X3_length S 18) (fun r_1 => (if r_1 < v4 then v3 else cs_let (m_X3_length S 18) (fun r_3 => (if v4 = r_3 then (if v3 ≤ u1 then m_X2_pieceEnd_L7 S u1 u2 n v4 (v4 + 1) else (if (v4 - u1) ≤ u2 then m_X2_pieceEnd_L7 S u1 u2 n v4 (v4 + 1) else v3)) else cs_let (m_X3_at S 18 v4) (fun r_10 => cs_let (m_X1_key S r_10) (fun r_11 => cs_let (m_X3_at S 18 (v4 - 1)) (fun r_12 => cs_let (m_X1_key S r_12) (fun r_13 => (if r_11 = r_13 then m_X2_pieceEnd_L7 S u1 u2 n v3 (v4 + 1) else (if v3 ≤ u1 then m_X2_pieceEnd_L7 S u1 u2 n v4 (v4 + 1) else (if (v4 - u1) ≤ u2 then m_X2_pieceEnd_L7 S u1 u2 n v4 (v4 + 1) else v3))))))))))) := rfl
def m_X2_pieceEnd (S : cs_St) (a1 : Int32) (a2 : Int32) : Int32 := m_X2_pieceEnd_L7 S a1 a2 cs_N a1 (a1 + 1)
set_option maxHeartbeats 4000000 in
set_option maxRecDepth 100000 in
theorem c_X2_pieceEnd (l : Launch) (D : va_G) (cy : ClassId) (ad : Nat → Nat) (S : cs_St) (a1 : Int32) (a2 : Int32) : Met l yX2_pieceEnd (cs_ws yX2_pieceEnd cX2_pieceEnd 6 (some .int)) (cs_rm 2 42) (cs_Pc D cy ad [.ref (ad 5), .int a1, .int a2] S) (cs_Qi D cy ad (fun r S1 => r = m_X2_pieceEnd S a1 a2 ∧ S1 = S)) 0 0 (cs_A ad) := by
  refine cs_of RX2 (by decide) rfl (Nat.le_of_ble_eq_true rfl) ?_
  intro p e s m below meth c hF hr hlk hw hK ls hl
  obtain ⟨hx, hb, hml, hown, hts⟩ := id hF
  have hS : va_S (cs_A ad) s.heap s.heap [] := va_S.rf
  have hl : lv_has ls 6 [(0, .ref (ad 5)), (1, .int a1), (2, .int a2)] := hl
  generalize hRes : m_X2_pieceEnd S a1 a2 = Res
  unfold m_X2_pieceEnd at hRes
  refine lv_iload_n hx hb dX2_pieceEnd_0 rfl (lv_at hl 1 rfl) ?_
  refine lv_istore_n (lv' := [(3, .int a1), (0, .ref (ad 5)), (1, .int a1), (2, .int a2)]) hx hb dX2_pieceEnd_1 rfl hl (by decide) rfl (fun ls hl => ?_)
  refine lv_iload_n hx hb dX2_pieceEnd_2 rfl (lv_at hl 2 rfl) ?_
  refine lv_iconst (v := 1) hx hb dX2_pieceEnd_3 (by decide) ?_
  refine lv_iadd hx hb dX2_pieceEnd_4 ?_
  refine lv_istore (lv' := [(4, .int (a1 + 1)), (3, .int a1), (0, .ref (ad 5)), (1, .int a1), (2, .int a2)]) hx hb dX2_pieceEnd_5 hl (by decide) rfl (fun ls hl => ?_)
  -- the loop at 7
  have lp : ∀ (n : Nat) (v3 : Int32) (v4 : Int32) (H : Heap) (locs : List Loc), cs_w D cy ad S H → va_S (cs_A ad) s.heap H locs → ∀ (ls : Array Slot), lv_has ls 6 [(4, .int v4), (3, .int v3), (0, .ref (ad 5)), (1, .int a1), (2, .int a2)] → (2147483647 - v4.toInt < (n : Int) ∧ 0 < n) → m_X2_pieceEnd_L7 S a1 a2 n v3 v4 = Res → W p l e (cs_rm 2 42) s m ([.ref (ad 5), .int a1, .int a2]).toArray below meth c H locs 0 0 (MQ below (cs_Qi D cy ad (fun r S1 => r = Res ∧ S1 = S)) ([.ref (ad 5), .int a1, .int a2]).toArray s 0 0 (cs_A ad)) (F0 m 7 ls []) := by
    intro n
    induction n with
    | zero => intro v3 v4 H locs hw hS ls hl hm; exact absurd hm.2 (Nat.lt_irrefl 0)
    | succ n ih =>
      intro v3 v4 H locs hw hS ls hl hm hRes
      replace hRes := m_X2_pieceEnd_L7_s.symm.trans hRes
      refine lv_iload hx hb dX2_pieceEnd_7 (lv_at hl 0 rfl) ?_
      refine lv_aload_n hx hb dX2_pieceEnd_9 rfl (lv_at hl 2 rfl) ?_
      refine cs_get (C := RX2) (T := TX2) (N := 4) hF in_X2 hw hK 5 rfl rfl 3 (by decide) q_68 rfl dX2_pieceEnd_10 ?_
      refine cs_vir hF (c_X3_length l D cy ad S 18 (by decide)) (cwV 0 hts g_X2_50 rfl rfl rfl kk_X3_length ⟨Nat.le_of_ble_eq_true rfl, Nat.le_of_ble_eq_true rfl⟩) (cs_recvR hK hw (by decide)) hw hK hS rfl hl.1 [.int v4] rfl (Nat.le_of_ble_eq_true rfl) dX2_pieceEnd_13 (fun r_1 H locs hq hw hS => ?_)
      replace hRes := cs_letE hq hRes
      have g1 : r_1 ≤ 513 := by rw [hq]; exact cs_le5 hw.1 18 (by decide)
      clear hq
      refine lv_icmp_gt (tgt := 109) hx hb dX2_pieceEnd_16 (by decide) (fun c_2 => ?_) (fun c_2 => ?_)
      · replace hRes := cs_T c_2 hRes
        refine lv_iload_n hx hb dX2_pieceEnd_109 rfl (lv_at hl 1 rfl) ?_
        exact cs_iret hF hr hlk hw hK hS dX2_pieceEnd_110 ⟨hRes, rfl⟩
      · replace hRes := cs_F c_2 hRes
        refine lv_iload hx hb dX2_pieceEnd_19 (lv_at hl 0 rfl) ?_
        refine lv_aload_n hx hb dX2_pieceEnd_21 rfl (lv_at hl 2 rfl) ?_
        refine cs_get (C := RX2) (T := TX2) (N := 4) hF in_X2 hw hK 5 rfl rfl 3 (by decide) q_68 rfl dX2_pieceEnd_22 ?_
        refine cs_vir hF (c_X3_length l D cy ad S 18 (by decide)) (cwV 0 hts g_X2_50 rfl rfl rfl kk_X3_length ⟨Nat.le_of_ble_eq_true rfl, Nat.le_of_ble_eq_true rfl⟩) (cs_recvR hK hw (by decide)) hw hK hS rfl hl.1 [.int v4] rfl (Nat.le_of_ble_eq_true rfl) dX2_pieceEnd_25 (fun r_3 H locs hq hw hS => ?_)
        replace hRes := cs_letE hq hRes
        clear hq
        refine lv_icmp_eq (tgt := 68) hx hb dX2_pieceEnd_28 (by decide) (fun c_4 => ?_) (fun c_4 => ?_)
        · replace hRes := cs_T c_4 hRes
          refine lv_iconst (v := 1) hx hb dX2_pieceEnd_68 (by decide) ?_
          refine lv_goto (tgt := 73) hx hb dX2_pieceEnd_69 (by decide) ?_
          refine lv_istore (lv' := [(5, .int 1), (4, .int v4), (3, .int v3), (0, .ref (ad 5)), (1, .int a1), (2, .int a2)]) hx hb dX2_pieceEnd_73 hl (by decide) rfl (fun ls hl => ?_)
          refine lv_iload hx hb dX2_pieceEnd_75 (lv_at hl 0 rfl) ?_
          refine lv_if_eq (tgt := 95) hx hb dX2_pieceEnd_77 (by decide) (fun c_5 => False.elim (by revert c_5; decide)) (fun c_5 => ?_)
          refine lv_iload_n hx hb dX2_pieceEnd_80 rfl (lv_at hl 2 rfl) ?_
          refine lv_iload_n hx hb dX2_pieceEnd_81 rfl (lv_at hl 4 rfl) ?_
          refine lv_icmp_le (tgt := 95) hx hb dX2_pieceEnd_82 (by decide) (fun c_6 => ?_) (fun c_6 => ?_)
          · replace hRes := cs_T c_6 hRes
            refine lv_iload hx hb dX2_pieceEnd_95 (lv_at hl 0 rfl) ?_
            refine lv_if_eq (tgt := 103) hx hb dX2_pieceEnd_97 (by decide) (fun c_7 => False.elim (by revert c_7; decide)) (fun c_7 => ?_)
            refine lv_iload hx hb dX2_pieceEnd_100 (lv_at hl 1 rfl) ?_
            refine lv_istore_n (lv' := [(3, .int v4), (5, .int 1), (4, .int v4), (0, .ref (ad 5)), (1, .int a1), (2, .int a2)]) hx hb dX2_pieceEnd_102 rfl hl (by decide) rfl (fun ls hl => ?_)
            refine lv_iinc (v := v4 + 1) (lv' := [(4, .int (v4 + 1)), (3, .int v4), (5, .int 1), (0, .ref (ad 5)), (1, .int a1), (2, .int a2)]) hx hb dX2_pieceEnd_103 hl (k := 2) rfl rfl (by decide) rfl (fun ls hl => ?_)
            refine lv_goto (tgt := 7) hx hb dX2_pieceEnd_106 (by decide) ?_
            exact ih v4 (v4 + 1) _ _ hw hS _ (lv_sub hl [0, 1, 3, 4, 5] rfl) (cs_up5 hm.1 c_2 g1) hRes
          · replace hRes := cs_F c_6 hRes
            refine lv_iload hx hb dX2_pieceEnd_85 (lv_at hl 1 rfl) ?_
            refine lv_iload_n hx hb dX2_pieceEnd_87 rfl (lv_at hl 4 rfl) ?_
            refine lv_isub hx hb dX2_pieceEnd_88 ?_
            refine lv_iload_n hx hb dX2_pieceEnd_89 rfl (lv_at hl 5 rfl) ?_
            refine lv_icmp_le (tgt := 95) hx hb dX2_pieceEnd_90 (by decide) (fun c_8 => ?_) (fun c_8 => ?_)
            · replace hRes := cs_T c_8 hRes
              refine lv_iload hx hb dX2_pieceEnd_95 (lv_at hl 0 rfl) ?_
              refine lv_if_eq (tgt := 103) hx hb dX2_pieceEnd_97 (by decide) (fun c_9 => False.elim (by revert c_9; decide)) (fun c_9 => ?_)
              refine lv_iload hx hb dX2_pieceEnd_100 (lv_at hl 1 rfl) ?_
              refine lv_istore_n (lv' := [(3, .int v4), (5, .int 1), (4, .int v4), (0, .ref (ad 5)), (1, .int a1), (2, .int a2)]) hx hb dX2_pieceEnd_102 rfl hl (by decide) rfl (fun ls hl => ?_)
              refine lv_iinc (v := v4 + 1) (lv' := [(4, .int (v4 + 1)), (3, .int v4), (5, .int 1), (0, .ref (ad 5)), (1, .int a1), (2, .int a2)]) hx hb dX2_pieceEnd_103 hl (k := 2) rfl rfl (by decide) rfl (fun ls hl => ?_)
              refine lv_goto (tgt := 7) hx hb dX2_pieceEnd_106 (by decide) ?_
              exact ih v4 (v4 + 1) _ _ hw hS _ (lv_sub hl [0, 1, 3, 4, 5] rfl) (cs_up5 hm.1 c_2 g1) hRes
            · replace hRes := cs_F c_8 hRes
              refine lv_iload_n hx hb dX2_pieceEnd_93 rfl (lv_at hl 2 rfl) ?_
              exact cs_iret hF hr hlk hw hK hS dX2_pieceEnd_94 ⟨hRes, rfl⟩
        · replace hRes := cs_F c_4 hRes
          refine lv_aload_n hx hb dX2_pieceEnd_31 rfl (lv_at hl 2 rfl) ?_
          refine cs_get (C := RX2) (T := TX2) (N := 4) hF in_X2 hw hK 5 rfl rfl 0 (by decide) q_69 rfl dX2_pieceEnd_32 ?_
          refine lv_aload_n hx hb dX2_pieceEnd_35 rfl (lv_at hl 2 rfl) ?_
          refine cs_get (C := RX2) (T := TX2) (N := 4) hF in_X2 hw hK 5 rfl rfl 3 (by decide) q_68 rfl dX2_pieceEnd_36 ?_
          refine lv_iload hx hb dX2_pieceEnd_39 (lv_at hl 0 rfl) ?_
          refine cs_vir hF (c_X3_at l D cy ad S 18 v4 (by decide)) (cwV 1 hts g_X2_37 rfl rfl rfl kk_X3_at ⟨Nat.le_of_ble_eq_true rfl, Nat.le_of_ble_eq_true rfl⟩) (cs_recvR hK hw (by decide)) hw hK hS rfl hl.1 [.ref (ad 2)] rfl (Nat.le_of_ble_eq_true rfl) dX2_pieceEnd_41 (fun r_10 H locs hq hw hS => ?_)
          replace hRes := cs_letE hq hRes
          clear hq
          refine cs_vir hF (c_X1_key l D cy ad S r_10) (cwV 1 hts g_X2_54 rfl rfl rfl kk_X1_key ⟨Nat.le_of_ble_eq_true rfl, Nat.le_of_ble_eq_true rfl⟩) (cs_recv hK hw (ci := 1) 2 rfl rfl) hw hK hS rfl hl.1 [] rfl (Nat.le_of_ble_eq_true rfl) dX2_pieceEnd_44 (fun r_11 H locs hq hw hS => ?_)
          replace hRes := cs_letE hq hRes
          clear hq
          refine lv_aload_n hx hb dX2_pieceEnd_47 rfl (lv_at hl 2 rfl) ?_
          refine cs_get (C := RX2) (T := TX2) (N := 4) hF in_X2 hw hK 5 rfl rfl 0 (by decide) q_69 rfl dX2_pieceEnd_48 ?_
          refine lv_aload_n hx hb dX2_pieceEnd_51 rfl (lv_at hl 2 rfl) ?_
          refine cs_get (C := RX2) (T := TX2) (N := 4) hF in_X2 hw hK 5 rfl rfl 3 (by decide) q_68 rfl dX2_pieceEnd_52 ?_
          refine lv_iload hx hb dX2_pieceEnd_55 (lv_at hl 0 rfl) ?_
          refine lv_iconst (v := 1) hx hb dX2_pieceEnd_57 (by decide) ?_
          refine lv_isub hx hb dX2_pieceEnd_58 ?_
          refine cs_vir hF (c_X3_at l D cy ad S 18 (v4 - 1) (by decide)) (cwV 1 hts g_X2_37 rfl rfl rfl kk_X3_at ⟨Nat.le_of_ble_eq_true rfl, Nat.le_of_ble_eq_true rfl⟩) (cs_recvR hK hw (by decide)) hw hK hS rfl hl.1 [.ref (ad 2), .int r_11] rfl (Nat.le_of_ble_eq_true rfl) dX2_pieceEnd_59 (fun r_12 H locs hq hw hS => ?_)
          replace hRes := cs_letE hq hRes
          clear hq
          refine cs_vir hF (c_X1_key l D cy ad S r_12) (cwV 1 hts g_X2_54 rfl rfl rfl kk_X1_key ⟨Nat.le_of_ble_eq_true rfl, Nat.le_of_ble_eq_true rfl⟩) (cs_recv hK hw (ci := 1) 2 rfl rfl) hw hK hS rfl hl.1 [.int r_11] rfl (Nat.le_of_ble_eq_true rfl) dX2_pieceEnd_62 (fun r_13 H locs hq hw hS => ?_)
          replace hRes := cs_letE hq hRes
          clear hq
          refine lv_icmp_eq (tgt := 72) hx hb dX2_pieceEnd_65 (by decide) (fun c_14 => ?_) (fun c_14 => ?_)
          · replace hRes := cs_T c_14 hRes
            refine lv_iconst (v := 0) hx hb dX2_pieceEnd_72 (by decide) ?_
            refine lv_istore (lv' := [(5, .int 0), (4, .int v4), (3, .int v3), (0, .ref (ad 5)), (1, .int a1), (2, .int a2)]) hx hb dX2_pieceEnd_73 hl (by decide) rfl (fun ls hl => ?_)
            refine lv_iload hx hb dX2_pieceEnd_75 (lv_at hl 0 rfl) ?_
            refine lv_if_eq (tgt := 95) hx hb dX2_pieceEnd_77 (by decide) (fun c_15 => ?_) (fun c_15 => False.elim (by revert c_15; decide))
            refine lv_iload hx hb dX2_pieceEnd_95 (lv_at hl 0 rfl) ?_
            refine lv_if_eq (tgt := 103) hx hb dX2_pieceEnd_97 (by decide) (fun c_16 => ?_) (fun c_16 => False.elim (by revert c_16; decide))
            refine lv_iinc (v := v4 + 1) (lv' := [(4, .int (v4 + 1)), (5, .int 0), (3, .int v3), (0, .ref (ad 5)), (1, .int a1), (2, .int a2)]) hx hb dX2_pieceEnd_103 hl (k := 1) rfl rfl (by decide) rfl (fun ls hl => ?_)
            refine lv_goto (tgt := 7) hx hb dX2_pieceEnd_106 (by decide) ?_
            exact ih v3 (v4 + 1) _ _ hw hS _ (lv_sub hl [0, 2, 3, 4, 5] rfl) (cs_up5 hm.1 c_2 g1) hRes
          · replace hRes := cs_F c_14 hRes
            refine lv_iconst (v := 1) hx hb dX2_pieceEnd_68 (by decide) ?_
            refine lv_goto (tgt := 73) hx hb dX2_pieceEnd_69 (by decide) ?_
            refine lv_istore (lv' := [(5, .int 1), (4, .int v4), (3, .int v3), (0, .ref (ad 5)), (1, .int a1), (2, .int a2)]) hx hb dX2_pieceEnd_73 hl (by decide) rfl (fun ls hl => ?_)
            refine lv_iload hx hb dX2_pieceEnd_75 (lv_at hl 0 rfl) ?_
            refine lv_if_eq (tgt := 95) hx hb dX2_pieceEnd_77 (by decide) (fun c_17 => False.elim (by revert c_17; decide)) (fun c_17 => ?_)
            refine lv_iload_n hx hb dX2_pieceEnd_80 rfl (lv_at hl 2 rfl) ?_
            refine lv_iload_n hx hb dX2_pieceEnd_81 rfl (lv_at hl 4 rfl) ?_
            refine lv_icmp_le (tgt := 95) hx hb dX2_pieceEnd_82 (by decide) (fun c_18 => ?_) (fun c_18 => ?_)
            · replace hRes := cs_T c_18 hRes
              refine lv_iload hx hb dX2_pieceEnd_95 (lv_at hl 0 rfl) ?_
              refine lv_if_eq (tgt := 103) hx hb dX2_pieceEnd_97 (by decide) (fun c_19 => False.elim (by revert c_19; decide)) (fun c_19 => ?_)
              refine lv_iload hx hb dX2_pieceEnd_100 (lv_at hl 1 rfl) ?_
              refine lv_istore_n (lv' := [(3, .int v4), (5, .int 1), (4, .int v4), (0, .ref (ad 5)), (1, .int a1), (2, .int a2)]) hx hb dX2_pieceEnd_102 rfl hl (by decide) rfl (fun ls hl => ?_)
              refine lv_iinc (v := v4 + 1) (lv' := [(4, .int (v4 + 1)), (3, .int v4), (5, .int 1), (0, .ref (ad 5)), (1, .int a1), (2, .int a2)]) hx hb dX2_pieceEnd_103 hl (k := 2) rfl rfl (by decide) rfl (fun ls hl => ?_)
              refine lv_goto (tgt := 7) hx hb dX2_pieceEnd_106 (by decide) ?_
              exact ih v4 (v4 + 1) _ _ hw hS _ (lv_sub hl [0, 1, 3, 4, 5] rfl) (cs_up5 hm.1 c_2 g1) hRes
            · replace hRes := cs_F c_18 hRes
              refine lv_iload hx hb dX2_pieceEnd_85 (lv_at hl 1 rfl) ?_
              refine lv_iload_n hx hb dX2_pieceEnd_87 rfl (lv_at hl 4 rfl) ?_
              refine lv_isub hx hb dX2_pieceEnd_88 ?_
              refine lv_iload_n hx hb dX2_pieceEnd_89 rfl (lv_at hl 5 rfl) ?_
              refine lv_icmp_le (tgt := 95) hx hb dX2_pieceEnd_90 (by decide) (fun c_20 => ?_) (fun c_20 => ?_)
              · replace hRes := cs_T c_20 hRes
                refine lv_iload hx hb dX2_pieceEnd_95 (lv_at hl 0 rfl) ?_
                refine lv_if_eq (tgt := 103) hx hb dX2_pieceEnd_97 (by decide) (fun c_21 => False.elim (by revert c_21; decide)) (fun c_21 => ?_)
                refine lv_iload hx hb dX2_pieceEnd_100 (lv_at hl 1 rfl) ?_
                refine lv_istore_n (lv' := [(3, .int v4), (5, .int 1), (4, .int v4), (0, .ref (ad 5)), (1, .int a1), (2, .int a2)]) hx hb dX2_pieceEnd_102 rfl hl (by decide) rfl (fun ls hl => ?_)
                refine lv_iinc (v := v4 + 1) (lv' := [(4, .int (v4 + 1)), (3, .int v4), (5, .int 1), (0, .ref (ad 5)), (1, .int a1), (2, .int a2)]) hx hb dX2_pieceEnd_103 hl (k := 2) rfl rfl (by decide) rfl (fun ls hl => ?_)
                refine lv_goto (tgt := 7) hx hb dX2_pieceEnd_106 (by decide) ?_
                exact ih v4 (v4 + 1) _ _ hw hS _ (lv_sub hl [0, 1, 3, 4, 5] rfl) (cs_up5 hm.1 c_2 g1) hRes
              · replace hRes := cs_F c_20 hRes
                refine lv_iload_n hx hb dX2_pieceEnd_93 rfl (lv_at hl 2 rfl) ?_
                exact cs_iret hF hr hlk hw hK hS dX2_pieceEnd_94 ⟨hRes, rfl⟩
  exact lp cs_N a1 (a1 + 1) _ _ hw hS _ (lv_sub hl [0, 1, 2, 3, 4] rfl) (cs_up0 (a1 + 1)) hRes
theorem kk_X2_pieceEnd : yX2_pieceEnd.cls = RX2 ∧ yX2_pieceEnd.cls ≠ "java/lang/invoke/MethodHandle" ∧ yX2_pieceEnd.cls ≠ "java/lang/invoke/VarHandle" ∧ (parseMethodDescriptor yX2_pieceEnd.desc).map (fun d => d.parameters.length) = some 2 := by decide +kernel
end
section
theorem g_X4_42 : GoodIn cs_WS (wsV RX4 42 RX3 yX3_length (cs_ws yX3_length cX3_length 1 (some .int))) := cs_goodV q_130 q_20 q_21 q_10 q_15
def m_X4_total (S : cs_St) : Int32 := cs_let (m_X3_length S 11) (fun r_1 => r_1)
set_option maxHeartbeats 4000000 in
set_option maxRecDepth 100000 in
theorem c_X4_total (l : Launch) (D : va_G) (cy : ClassId) (ad : Nat → Nat) (S : cs_St) : Met l yX4_total (cs_ws yX4_total cX4_total 1 (some .int)) (cs_rm 1 20) (cs_Pc D cy ad [.ref (ad 4)] S) (cs_Qi D cy ad (fun r S1 => r = m_X4_total S ∧ S1 = S)) 0 0 (cs_A ad) := by
  refine cs_of RX4 (by decide) rfl (Nat.le_of_ble_eq_true rfl) ?_
  intro p e s m below meth c hF hr hlk hw hK ls hl
  obtain ⟨hx, hb, hml, hown, hts⟩ := id hF
  have hS : va_S (cs_A ad) s.heap s.heap [] := va_S.rf
  have hl : lv_has ls 1 [(0, .ref (ad 4))] := hl
  generalize hRes : m_X4_total S = Res
  unfold m_X4_total at hRes
  refine lv_aload_n hx hb dX4_total_0 rfl (lv_at hl 0 rfl) ?_
  refine cs_get (C := RX4) (T := TX4) (N := 8) hF in_X4 hw hK 4 rfl rfl 2 (by decide) q_121 rfl dX4_total_1 ?_
  refine cs_vir hF (c_X3_length l D cy ad S 11 (by decide)) (cwV 0 hts g_X4_42 rfl rfl rfl kk_X3_length ⟨Nat.le_of_ble_eq_true rfl, Nat.le_of_ble_eq_true rfl⟩) (cs_recvR hK hw (by decide)) hw hK hS rfl hl.1 [] rfl (Nat.le_of_ble_eq_true rfl) dX4_total_4 (fun r_1 H locs hq hw hS => ?_)
  replace hRes := cs_letE hq hRes
  clear hq
  exact cs_iret hF hr hlk hw hK hS dX4_total_7 ⟨hRes, rfl⟩
theorem kk_X4_total : yX4_total.cls = RX4 ∧ yX4_total.cls ≠ "java/lang/invoke/MethodHandle" ∧ yX4_total.cls ≠ "java/lang/invoke/VarHandle" ∧ (parseMethodDescriptor yX4_total.desc).map (fun d => d.parameters.length) = some 0 := by decide +kernel
theorem g_X4_46 : GoodIn cs_WS (wsV RX4 46 RX3 yX3_at (cs_ws yX3_at cX3_at 2 (some .int))) := cs_goodV q_132 q_50 q_51 q_10 q_47
def m_X4_count (S : cs_St) (a1 : Int32) : Int32 := cs_let (m_X3_at S 16 a1) (fun r_1 => r_1)
set_option maxHeartbeats 4000000 in
set_option maxRecDepth 100000 in
theorem c_X4_count (l : Launch) (D : va_G) (cy : ClassId) (ad : Nat → Nat) (S : cs_St) (a1 : Int32) : Met l yX4_count (cs_ws yX4_count cX4_count 2 (some .int)) (cs_rm 1 21) (cs_Pc D cy ad [.ref (ad 4), .int a1] S) (cs_Qi D cy ad (fun r S1 => r = m_X4_count S a1 ∧ S1 = S)) 0 0 (cs_A ad) := by
  refine cs_of RX4 (by decide) rfl (Nat.le_of_ble_eq_true rfl) ?_
  intro p e s m below meth c hF hr hlk hw hK ls hl
  obtain ⟨hx, hb, hml, hown, hts⟩ := id hF
  have hS : va_S (cs_A ad) s.heap s.heap [] := va_S.rf
  have hl : lv_has ls 2 [(0, .ref (ad 4)), (1, .int a1)] := hl
  generalize hRes : m_X4_count S a1 = Res
  unfold m_X4_count at hRes
  refine lv_aload_n hx hb dX4_count_0 rfl (lv_at hl 0 rfl) ?_
  refine cs_get (C := RX4) (T := TX4) (N := 8) hF in_X4 hw hK 4 rfl rfl 7 (by decide) q_126 rfl dX4_count_1 ?_
  refine lv_iload_n hx hb dX4_count_4 rfl (lv_at hl 1 rfl) ?_
  refine cs_vir hF (c_X3_at l D cy ad S 16 a1 (by decide)) (cwV 1 hts g_X4_46 rfl rfl rfl kk_X3_at ⟨Nat.le_of_ble_eq_true rfl, Nat.le_of_ble_eq_true rfl⟩) (cs_recvR hK hw (by decide)) hw hK hS rfl hl.1 [] rfl (Nat.le_of_ble_eq_true rfl) dX4_count_5 (fun r_1 H locs hq hw hS => ?_)
  replace hRes := cs_letE hq hRes
  clear hq
  exact cs_iret hF hr hlk hw hK hS dX4_count_8 ⟨hRes, rfl⟩
theorem kk_X4_count : yX4_count.cls = RX4 ∧ yX4_count.cls ≠ "java/lang/invoke/MethodHandle" ∧ yX4_count.cls ≠ "java/lang/invoke/VarHandle" ∧ (parseMethodDescriptor yX4_count.desc).map (fun d => d.parameters.length) = some 1 := by decide +kernel
def m_X4_first_L4 (S : cs_St) (u1 : Int32) : Nat → Int32 → Int32 → Int32 × Int32
  | 0, _, _ => (0, 0)
  | n + 1, v2, v3 => (if u1 ≤ v3 then (v2, v3) else cs_let (m_X3_at S 16 v3) (fun r_2 => m_X4_first_L4 S u1 n (v2 + r_2) (v3 + 1)))
theorem m_X4_first_L4_s {S : cs_St} {u1 : Int32} {n : Nat} {v2 : Int32} {v3 : Int32} : m_X4_first_L4 S u1 (n + 1) v2 v3 = (if u1 ≤ v3 then (v2, v3) else cs_let (m_X3_at S 16 v3) (fun r_2 => m_X4_first_L4 S u1 n (v2 + r_2) (v3 + 1))) := rfl
def m_X4_first (S : cs_St) (a1 : Int32) : Int32 := cs_let (m_X4_first_L4 S a1 cs_N 0 0) (fun T_3 => T_3.1)
set_option maxHeartbeats 4000000 in
set_option maxRecDepth 100000 in
theorem c_X4_first (l : Launch) (D : va_G) (cy : ClassId) (ad : Nat → Nat) (S : cs_St) (a1 : Int32) : Met l yX4_first (cs_ws yX4_first cX4_first 4 (some .int)) (cs_rm 1 21) (cs_Pc D cy ad [.ref (ad 4), .int a1] S) (cs_Qi D cy ad (fun r S1 => r = m_X4_first S a1 ∧ S1 = S)) 0 0 (cs_A ad) := by
  refine cs_of RX4 (by decide) rfl (Nat.le_of_ble_eq_true rfl) ?_
  intro p e s m below meth c hF hr hlk hw hK ls hl
  obtain ⟨hx, hb, hml, hown, hts⟩ := id hF
  have hS : va_S (cs_A ad) s.heap s.heap [] := va_S.rf
  have hl : lv_has ls 4 [(0, .ref (ad 4)), (1, .int a1)] := hl
  generalize hRes : m_X4_first S a1 = Res
  unfold m_X4_first at hRes
  refine lv_iconst (v := 0) hx hb dX4_first_0 (by decide) ?_
  refine lv_istore_n (lv' := [(2, .int 0), (0, .ref (ad 4)), (1, .int a1)]) hx hb dX4_first_1 rfl hl (by decide) rfl (fun ls hl => ?_)
  refine lv_iconst (v := 0) hx hb dX4_first_2 (by decide) ?_
  refine lv_istore_n (lv' := [(3, .int 0), (2, .int 0), (0, .ref (ad 4)), (1, .int a1)]) hx hb dX4_first_3 rfl hl (by decide) rfl (fun ls hl => ?_)
  -- the loop at 4
  obtain ⟨T_3, hq⟩ : ∃ z, z = m_X4_first_L4 S a1 cs_N 0 0 := ⟨_, rfl⟩
  replace hRes := cs_letE hq hRes
  have hk : ∀ (H : Heap) (locs : List Loc) (ls : Array Slot), cs_w D cy ad S H → va_S (cs_A ad) s.heap H locs → lv_has ls 4 [(3, .int T_3.2), (2, .int T_3.1), (0, .ref (ad 4)), (1, .int a1)] → W p l e (cs_rm 1 21) s m ([.ref (ad 4), .int a1]).toArray below meth c H locs 0 0 (MQ below (cs_Qi D cy ad (fun r S1 => r = Res ∧ S1 = S)) ([.ref (ad 4), .int a1]).toArray s 0 0 (cs_A ad)) (F0 m 26 ls []) := by
    intro H locs ls hw hS hl
    refine lv_iload_n hx hb dX4_first_26 rfl (lv_at hl 1 rfl) ?_
    exact cs_iret hF hr hlk hw hK hS dX4_first_27 ⟨hRes, rfl⟩
  have lp : ∀ (n : Nat) (v2 : Int32) (v3 : Int32) (H : Heap) (locs : List Loc), cs_w D cy ad S H → va_S (cs_A ad) s.heap H locs → ∀ (ls : Array Slot), lv_has ls 4 [(3, .int v3), (2, .int v2), (0, .ref (ad 4)), (1, .int a1)] → (2147483647 - v3.toInt < (n : Int) ∧ 0 < n) → m_X4_first_L4 S a1 n v2 v3 = T_3 → W p l e (cs_rm 1 21) s m ([.ref (ad 4), .int a1]).toArray below meth c H locs 0 0 (MQ below (cs_Qi D cy ad (fun r S1 => r = Res ∧ S1 = S)) ([.ref (ad 4), .int a1]).toArray s 0 0 (cs_A ad)) (F0 m 4 ls []) := by
    intro n
    induction n with
    | zero => intro v2 v3 H locs hw hS ls hl hm; exact absurd hm.2 (Nat.lt_irrefl 0)
    | succ n ih =>
      intro v2 v3 H locs hw hS ls hl hm hE
      replace hE := m_X4_first_L4_s.symm.trans hE
      refine lv_iload_n hx hb dX4_first_4 rfl (lv_at hl 0 rfl) ?_
      refine lv_iload_n hx hb dX4_first_5 rfl (lv_at hl 3 rfl) ?_
      refine lv_icmp_ge (tgt := 26) hx hb dX4_first_6 (by decide) (fun c_1 => ?_) (fun c_1 => ?_)
      · replace hE := cs_T c_1 hE
        subst hE
        exact hk _ _ _ hw hS (lv_sub hl [0, 1, 2, 3] rfl)
      · replace hE := cs_F c_1 hE
        refine lv_iload_n hx hb dX4_first_9 rfl (lv_at hl 1 rfl) ?_
        refine lv_aload_n hx hb dX4_first_10 rfl (lv_at hl 2 rfl) ?_
        refine cs_get (C := RX4) (T := TX4) (N := 8) hF in_X4 hw hK 4 rfl rfl 7 (by decide) q_126 rfl dX4_first_11 ?_
        refine lv_iload_n hx hb dX4_first_14 rfl (lv_at hl 0 rfl) ?_
        refine cs_vir hF (c_X3_at l D cy ad S 16 v3 (by decide)) (cwV 1 hts g_X4_46 rfl rfl rfl kk_X3_at ⟨Nat.le_of_ble_eq_true rfl, Nat.le_of_ble_eq_true rfl⟩) (cs_recvR hK hw (by decide)) hw hK hS rfl hl.1 [.int v2] rfl (Nat.le_of_ble_eq_true rfl) dX4_first_15 (fun r_2 H locs hq hw hS => ?_)
        replace hE := cs_letE hq hE
        clear hq
        refine lv_iadd hx hb dX4_first_18 ?_
        refine lv_istore_n (lv' := [(2, .int (v2 + r_2)), (3, .int v3), (0, .ref (ad 4)), (1, .int a1)]) hx hb dX4_first_19 rfl hl (by decide) rfl (fun ls hl => ?_)
        refine lv_iinc (v := v3 + 1) (lv' := [(3, .int (v3 + 1)), (2, .int (v2 + r_2)), (0, .ref (ad 4)), (1, .int a1)]) hx hb dX4_first_20 hl (k := 1) rfl rfl (by decide) rfl (fun ls hl => ?_)
        refine lv_goto (tgt := 4) hx hb dX4_first_23 (by decide) ?_
        exact ih (v2 + r_2) (v3 + 1) _ _ hw hS _ (lv_sub hl [0, 1, 2, 3] rfl) (cs_up hm.1 c_1) hE
  exact lp cs_N 0 0 _ _ hw hS _ (lv_sub hl [0, 1, 2, 3] rfl) (cs_up0 0) hq.symm
theorem kk_X4_first : yX4_first.cls = RX4 ∧ yX4_first.cls ≠ "java/lang/invoke/MethodHandle" ∧ yX4_first.cls ≠ "java/lang/invoke/VarHandle" ∧ (parseMethodDescriptor yX4_first.desc).map (fun d => d.parameters.length) = some 1 := by decide +kernel
def m_X4_begin (S : cs_St) (a1 : Int32) : Int32 := (if a1 ≤ 0 then 0 else cs_let (m_X3_at S 11 (a1 - 1)) (fun r_2 => r_2))
set_option maxHeartbeats 4000000 in
set_option maxRecDepth 100000 in
theorem c_X4_begin (l : Launch) (D : va_G) (cy : ClassId) (ad : Nat → Nat) (S : cs_St) (a1 : Int32) : Met l yX4_begin (cs_ws yX4_begin cX4_begin 2 (some .int)) (cs_rm 1 21) (cs_Pc D cy ad [.ref (ad 4), .int a1] S) (cs_Qi D cy ad (fun r S1 => r = m_X4_begin S a1 ∧ S1 = S)) 0 0 (cs_A ad) := by
  refine cs_of RX4 (by decide) rfl (Nat.le_of_ble_eq_true rfl) ?_
  intro p e s m below meth c hF hr hlk hw hK ls hl
  obtain ⟨hx, hb, hml, hown, hts⟩ := id hF
  have hS : va_S (cs_A ad) s.heap s.heap [] := va_S.rf
  have hl : lv_has ls 2 [(0, .ref (ad 4)), (1, .int a1)] := hl
  generalize hRes : m_X4_begin S a1 = Res
  unfold m_X4_begin at hRes
  refine lv_iload_n hx hb dX4_begin_0 rfl (lv_at hl 1 rfl) ?_
  refine lv_if_le (tgt := 17) hx hb dX4_begin_1 (by decide) (fun c_1 => ?_) (fun c_1 => ?_)
  · replace hRes := cs_T c_1 hRes
    refine lv_iconst (v := 0) hx hb dX4_begin_17 (by decide) ?_
    exact cs_iret hF hr hlk hw hK hS dX4_begin_18 ⟨hRes, rfl⟩
  · replace hRes := cs_F c_1 hRes
    refine lv_aload_n hx hb dX4_begin_4 rfl (lv_at hl 0 rfl) ?_
    refine cs_get (C := RX4) (T := TX4) (N := 8) hF in_X4 hw hK 4 rfl rfl 2 (by decide) q_121 rfl dX4_begin_5 ?_
    refine lv_iload_n hx hb dX4_begin_8 rfl (lv_at hl 1 rfl) ?_
    refine lv_iconst (v := 1) hx hb dX4_begin_9 (by decide) ?_
    refine lv_isub hx hb dX4_begin_10 ?_
    refine cs_vir hF (c_X3_at l D cy ad S 11 (a1 - 1) (by decide)) (cwV 1 hts g_X4_46 rfl rfl rfl kk_X3_at ⟨Nat.le_of_ble_eq_true rfl, Nat.le_of_ble_eq_true rfl⟩) (cs_recvR hK hw (by decide)) hw hK hS rfl hl.1 [] rfl (Nat.le_of_ble_eq_true rfl) dX4_begin_11 (fun r_2 H locs hq hw hS => ?_)
    replace hRes := cs_letE hq hRes
    clear hq
    refine lv_goto (tgt := 18) hx hb dX4_begin_14 (by decide) ?_
    exact cs_iret hF hr hlk hw hK hS dX4_begin_18 ⟨hRes, rfl⟩
theorem kk_X4_begin : yX4_begin.cls = RX4 ∧ yX4_begin.cls ≠ "java/lang/invoke/MethodHandle" ∧ yX4_begin.cls ≠ "java/lang/invoke/VarHandle" ∧ (parseMethodDescriptor yX4_begin.desc).map (fun d => d.parameters.length) = some 1 := by decide +kernel
theorem g_X4_50 : GoodIn cs_WS (wsV RX4 50 RX4 yX4_begin (cs_ws yX4_begin cX4_begin 2 (some .int))) := cs_goodV q_136 q_137 q_138 q_139 q_134
def m_X4_length (S : cs_St) (a1 : Int32) : Int32 := cs_let (m_X3_at S 11 a1) (fun r_1 => cs_let (m_X4_begin S a1) (fun r_2 => (r_1 - r_2)))
set_option maxHeartbeats 4000000 in
set_option maxRecDepth 100000 in
theorem c_X4_length (l : Launch) (D : va_G) (cy : ClassId) (ad : Nat → Nat) (S : cs_St) (a1 : Int32) : Met l yX4_length (cs_ws yX4_length cX4_length 2 (some .int)) (cs_rm 2 42) (cs_Pc D cy ad [.ref (ad 4), .int a1] S) (cs_Qi D cy ad (fun r S1 => r = m_X4_length S a1 ∧ S1 = S)) 0 0 (cs_A ad) := by
  refine cs_of RX4 (by decide) rfl (Nat.le_of_ble_eq_true rfl) ?_
  intro p e s m below meth c hF hr hlk hw hK ls hl
  obtain ⟨hx, hb, hml, hown, hts⟩ := id hF
  have hS : va_S (cs_A ad) s.heap s.heap [] := va_S.rf
  have hl : lv_has ls 2 [(0, .ref (ad 4)), (1, .int a1)] := hl
  generalize hRes : m_X4_length S a1 = Res
  unfold m_X4_length at hRes
  refine lv_aload_n hx hb dX4_length_0 rfl (lv_at hl 0 rfl) ?_
  refine cs_get (C := RX4) (T := TX4) (N := 8) hF in_X4 hw hK 4 rfl rfl 2 (by decide) q_121 rfl dX4_length_1 ?_
  refine lv_iload_n hx hb dX4_length_4 rfl (lv_at hl 1 rfl) ?_
  refine cs_vir hF (c_X3_at l D cy ad S 11 a1 (by decide)) (cwV 1 hts g_X4_46 rfl rfl rfl kk_X3_at ⟨Nat.le_of_ble_eq_true rfl, Nat.le_of_ble_eq_true rfl⟩) (cs_recvR hK hw (by decide)) hw hK hS rfl hl.1 [] rfl (Nat.le_of_ble_eq_true rfl) dX4_length_5 (fun r_1 H locs hq hw hS => ?_)
  replace hRes := cs_letE hq hRes
  clear hq
  refine lv_aload_n hx hb dX4_length_8 rfl (lv_at hl 0 rfl) ?_
  refine lv_iload_n hx hb dX4_length_9 rfl (lv_at hl 1 rfl) ?_
  refine cs_vir hF (c_X4_begin l D cy ad S a1) (cwV 1 hts g_X4_50 rfl rfl rfl kk_X4_begin ⟨Nat.le_of_ble_eq_true rfl, Nat.le_of_ble_eq_true rfl⟩) (cs_recv hK hw (ci := 4) 4 rfl rfl) hw hK hS rfl hl.1 [.int r_1] rfl (Nat.le_of_ble_eq_true rfl) dX4_length_10 (fun r_2 H locs hq hw hS => ?_)
  replace hRes := cs_letE hq hRes
  clear hq
  refine lv_isub hx hb dX4_length_13 ?_
  exact cs_iret hF hr hlk hw hK hS dX4_length_14 ⟨hRes, rfl⟩
theorem kk_X4_length : yX4_length.cls = RX4 ∧ yX4_length.cls ≠ "java/lang/invoke/MethodHandle" ∧ yX4_length.cls ≠ "java/lang/invoke/VarHandle" ∧ (parseMethodDescriptor yX4_length.desc).map (fun d => d.parameters.length) = some 1 := by decide +kernel
theorem g_X4_53 : GoodIn cs_WS (wsV RX4 53 RX4 yX4_first (cs_ws yX4_first cX4_first 4 (some .int))) := cs_goodV q_141 q_142 q_143 q_139 q_133
def m_X4_entriesOn (S : cs_St) (a1 : Int32) : Int32 := cs_let (m_X4_first S (a1 + 1)) (fun r_1 => cs_let (m_X4_begin S r_1) (fun r_2 => cs_let (m_X4_first S a1) (fun r_3 => cs_let (m_X4_begin S r_3) (fun r_4 => (r_2 - r_4)))))
set_option maxHeartbeats 4000000 in
set_option maxRecDepth 100000 in
theorem c_X4_entriesOn (l : Launch) (D : va_G) (cy : ClassId) (ad : Nat → Nat) (S : cs_St) (a1 : Int32) : Met l yX4_entriesOn (cs_ws yX4_entriesOn cX4_entriesOn 2 (some .int)) (cs_rm 2 44) (cs_Pc D cy ad [.ref (ad 4), .int a1] S) (cs_Qi D cy ad (fun r S1 => r = m_X4_entriesOn S a1 ∧ S1 = S)) 0 0 (cs_A ad) := by
  refine cs_of RX4 (by decide) rfl (Nat.le_of_ble_eq_true rfl) ?_
  intro p e s m below meth c hF hr hlk hw hK ls hl
  obtain ⟨hx, hb, hml, hown, hts⟩ := id hF
  have hS : va_S (cs_A ad) s.heap s.heap [] := va_S.rf
  have hl : lv_has ls 2 [(0, .ref (ad 4)), (1, .int a1)] := hl
  generalize hRes : m_X4_entriesOn S a1 = Res
  unfold m_X4_entriesOn at hRes
  refine lv_aload_n hx hb dX4_entriesOn_0 rfl (lv_at hl 0 rfl) ?_
  refine lv_aload_n hx hb dX4_entriesOn_1 rfl (lv_at hl 0 rfl) ?_
  refine lv_iload_n hx hb dX4_entriesOn_2 rfl (lv_at hl 1 rfl) ?_
  refine lv_iconst (v := 1) hx hb dX4_entriesOn_3 (by decide) ?_
  refine lv_iadd hx hb dX4_entriesOn_4 ?_
  refine cs_vir hF (c_X4_first l D cy ad S (a1 + 1)) (cwV 1 hts g_X4_53 rfl rfl rfl kk_X4_first ⟨Nat.le_of_ble_eq_true rfl, Nat.le_of_ble_eq_true rfl⟩) (cs_recv hK hw (ci := 4) 4 rfl rfl) hw hK hS rfl hl.1 [.ref (ad 4)] rfl (Nat.le_of_ble_eq_true rfl) dX4_entriesOn_5 (fun r_1 H locs hq hw hS => ?_)
  replace hRes := cs_letE hq hRes
  clear hq
  refine cs_vir hF (c_X4_begin l D cy ad S r_1) (cwV 1 hts g_X4_50 rfl rfl rfl kk_X4_begin ⟨Nat.le_of_ble_eq_true rfl, Nat.le_of_ble_eq_true rfl⟩) (cs_recv hK hw (ci := 4) 4 rfl rfl) hw hK hS rfl hl.1 [] rfl (Nat.le_of_ble_eq_true rfl) dX4_entriesOn_8 (fun r_2 H locs hq hw hS => ?_)
  replace hRes := cs_letE hq hRes
  clear hq
  refine lv_aload_n hx hb dX4_entriesOn_11 rfl (lv_at hl 0 rfl) ?_
  refine lv_aload_n hx hb dX4_entriesOn_12 rfl (lv_at hl 0 rfl) ?_
  refine lv_iload_n hx hb dX4_entriesOn_13 rfl (lv_at hl 1 rfl) ?_
  refine cs_vir hF (c_X4_first l D cy ad S a1) (cwV 1 hts g_X4_53 rfl rfl rfl kk_X4_first ⟨Nat.le_of_ble_eq_true rfl, Nat.le_of_ble_eq_true rfl⟩) (cs_recv hK hw (ci := 4) 4 rfl rfl) hw hK hS rfl hl.1 [.ref (ad 4), .int r_2] rfl (Nat.le_of_ble_eq_true rfl) dX4_entriesOn_14 (fun r_3 H locs hq hw hS => ?_)
  replace hRes := cs_letE hq hRes
  clear hq
  refine cs_vir hF (c_X4_begin l D cy ad S r_3) (cwV 1 hts g_X4_50 rfl rfl rfl kk_X4_begin ⟨Nat.le_of_ble_eq_true rfl, Nat.le_of_ble_eq_true rfl⟩) (cs_recv hK hw (ci := 4) 4 rfl rfl) hw hK hS rfl hl.1 [.int r_2] rfl (Nat.le_of_ble_eq_true rfl) dX4_entriesOn_17 (fun r_4 H locs hq hw hS => ?_)
  replace hRes := cs_letE hq hRes
  clear hq
  refine lv_isub hx hb dX4_entriesOn_20 ?_
  exact cs_iret hF hr hlk hw hK hS dX4_entriesOn_21 ⟨hRes, rfl⟩
theorem kk_X4_entriesOn : yX4_entriesOn.cls = RX4 ∧ yX4_entriesOn.cls ≠ "java/lang/invoke/MethodHandle" ∧ yX4_entriesOn.cls ≠ "java/lang/invoke/VarHandle" ∧ (parseMethodDescriptor yX4_entriesOn.desc).map (fun d => d.parameters.length) = some 1 := by decide +kernel
def m_X4_age (S : cs_St) (a1 : Int32) (a2 : Int32) : Int32 := cs_let (m_X4_begin S a1) (fun r_1 => cs_let (m_X3_at S 10 (r_1 + a2)) (fun r_2 => r_2))
set_option maxHeartbeats 4000000 in
set_option maxRecDepth 100000 in
theorem c_X4_age (l : Launch) (D : va_G) (cy : ClassId) (ad : Nat → Nat) (S : cs_St) (a1 : Int32) (a2 : Int32) : Met l yX4_age (cs_ws yX4_age cX4_age 3 (some .int)) (cs_rm 2 42) (cs_Pc D cy ad [.ref (ad 4), .int a1, .int a2] S) (cs_Qi D cy ad (fun r S1 => r = m_X4_age S a1 a2 ∧ S1 = S)) 0 0 (cs_A ad) := by
  refine cs_of RX4 (by decide) rfl (Nat.le_of_ble_eq_true rfl) ?_
  intro p e s m below meth c hF hr hlk hw hK ls hl
  obtain ⟨hx, hb, hml, hown, hts⟩ := id hF
  have hS : va_S (cs_A ad) s.heap s.heap [] := va_S.rf
  have hl : lv_has ls 3 [(0, .ref (ad 4)), (1, .int a1), (2, .int a2)] := hl
  generalize hRes : m_X4_age S a1 a2 = Res
  unfold m_X4_age at hRes
  refine lv_aload_n hx hb dX4_age_0 rfl (lv_at hl 0 rfl) ?_
  refine cs_get (C := RX4) (T := TX4) (N := 8) hF in_X4 hw hK 4 rfl rfl 1 (by decide) q_120 rfl dX4_age_1 ?_
  refine lv_aload_n hx hb dX4_age_4 rfl (lv_at hl 0 rfl) ?_
  refine lv_iload_n hx hb dX4_age_5 rfl (lv_at hl 1 rfl) ?_
  refine cs_vir hF (c_X4_begin l D cy ad S a1) (cwV 1 hts g_X4_50 rfl rfl rfl kk_X4_begin ⟨Nat.le_of_ble_eq_true rfl, Nat.le_of_ble_eq_true rfl⟩) (cs_recv hK hw (ci := 4) 4 rfl rfl) hw hK hS rfl hl.1 [.ref (ad 26)] rfl (Nat.le_of_ble_eq_true rfl) dX4_age_6 (fun r_1 H locs hq hw hS => ?_)
  replace hRes := cs_letE hq hRes
  clear hq
  refine lv_iload_n hx hb dX4_age_9 rfl (lv_at hl 2 rfl) ?_
  refine lv_iadd hx hb dX4_age_10 ?_
  refine cs_vir hF (c_X3_at l D cy ad S 10 (r_1 + a2) (by decide)) (cwV 1 hts g_X4_46 rfl rfl rfl kk_X3_at ⟨Nat.le_of_ble_eq_true rfl, Nat.le_of_ble_eq_true rfl⟩) (cs_recvR hK hw (by decide)) hw hK hS rfl hl.1 [] rfl (Nat.le_of_ble_eq_true rfl) dX4_age_11 (fun r_2 H locs hq hw hS => ?_)
  replace hRes := cs_letE hq hRes
  clear hq
  exact cs_iret hF hr hlk hw hK hS dX4_age_14 ⟨hRes, rfl⟩
theorem kk_X4_age : yX4_age.cls = RX4 ∧ yX4_age.cls ≠ "java/lang/invoke/MethodHandle" ∧ yX4_age.cls ≠ "java/lang/invoke/VarHandle" ∧ (parseMethodDescriptor yX4_age.desc).map (fun d => d.parameters.length) = some 2 := by decide +kernel
theorem g_X4_56 : GoodIn cs_WS (wsV RX4 56 RX1 yX1_key (cs_ws yX1_key cX1_key 2 (some .int))) := cs_goodV q_146 q_89 q_90 q_91 q_48
def m_X4_least (S : cs_St) (a1 : Int32) : Int32 := cs_let (m_X4_begin S a1) (fun r_1 => cs_let (m_X3_at S 10 r_1) (fun r_2 => cs_let (m_X1_key S r_2) (fun r_3 => r_3)))
set_option maxHeartbeats 4000000 in
set_option maxRecDepth 100000 in
theorem c_X4_least (l : Launch) (D : va_G) (cy : ClassId) (ad : Nat → Nat) (S : cs_St) (a1 : Int32) : Met l yX4_least (cs_ws yX4_least cX4_least 2 (some .int)) (cs_rm 2 42) (cs_Pc D cy ad [.ref (ad 4), .int a1] S) (cs_Qi D cy ad (fun r S1 => r = m_X4_least S a1 ∧ S1 = S)) 0 0 (cs_A ad) := by
  refine cs_of RX4 (by decide) rfl (Nat.le_of_ble_eq_true rfl) ?_
  intro p e s m below meth c hF hr hlk hw hK ls hl
  obtain ⟨hx, hb, hml, hown, hts⟩ := id hF
  have hS : va_S (cs_A ad) s.heap s.heap [] := va_S.rf
  have hl : lv_has ls 2 [(0, .ref (ad 4)), (1, .int a1)] := hl
  generalize hRes : m_X4_least S a1 = Res
  unfold m_X4_least at hRes
  refine lv_aload_n hx hb dX4_least_0 rfl (lv_at hl 0 rfl) ?_
  refine cs_get (C := RX4) (T := TX4) (N := 8) hF in_X4 hw hK 4 rfl rfl 0 (by decide) q_127 rfl dX4_least_1 ?_
  refine lv_aload_n hx hb dX4_least_4 rfl (lv_at hl 0 rfl) ?_
  refine cs_get (C := RX4) (T := TX4) (N := 8) hF in_X4 hw hK 4 rfl rfl 1 (by decide) q_120 rfl dX4_least_5 ?_
  refine lv_aload_n hx hb dX4_least_8 rfl (lv_at hl 0 rfl) ?_
  refine lv_iload_n hx hb dX4_least_9 rfl (lv_at hl 1 rfl) ?_
  refine cs_vir hF (c_X4_begin l D cy ad S a1) (cwV 1 hts g_X4_50 rfl rfl rfl kk_X4_begin ⟨Nat.le_of_ble_eq_true rfl, Nat.le_of_ble_eq_true rfl⟩) (cs_recv hK hw (ci := 4) 4 rfl rfl) hw hK hS rfl hl.1 [.ref (ad 26), .ref (ad 2)] rfl (Nat.le_of_ble_eq_true rfl) dX4_least_10 (fun r_1 H locs hq hw hS => ?_)
  replace hRes := cs_letE hq hRes
  clear hq
  refine cs_vir hF (c_X3_at l D cy ad S 10 r_1 (by decide)) (cwV 1 hts g_X4_46 rfl rfl rfl kk_X3_at ⟨Nat.le_of_ble_eq_true rfl, Nat.le_of_ble_eq_true rfl⟩) (cs_recvR hK hw (by decide)) hw hK hS rfl hl.1 [.ref (ad 2)] rfl (Nat.le_of_ble_eq_true rfl) dX4_least_13 (fun r_2 H locs hq hw hS => ?_)
  replace hRes := cs_letE hq hRes
  clear hq
  refine cs_vir hF (c_X1_key l D cy ad S r_2) (cwV 1 hts g_X4_56 rfl rfl rfl kk_X1_key ⟨Nat.le_of_ble_eq_true rfl, Nat.le_of_ble_eq_true rfl⟩) (cs_recv hK hw (ci := 1) 2 rfl rfl) hw hK hS rfl hl.1 [] rfl (Nat.le_of_ble_eq_true rfl) dX4_least_16 (fun r_3 H locs hq hw hS => ?_)
  replace hRes := cs_letE hq hRes
  clear hq
  exact cs_iret hF hr hlk hw hK hS dX4_least_19 ⟨hRes, rfl⟩
theorem kk_X4_least : yX4_least.cls = RX4 ∧ yX4_least.cls ≠ "java/lang/invoke/MethodHandle" ∧ yX4_least.cls ≠ "java/lang/invoke/VarHandle" ∧ (parseMethodDescriptor yX4_least.desc).map (fun d => d.parameters.length) = some 1 := by decide +kernel
def m_X4_greatest (S : cs_St) (a1 : Int32) : Int32 := cs_let (m_X3_at S 11 a1) (fun r_1 => cs_let (m_X3_at S 10 (r_1 - 1)) (fun r_2 => cs_let (m_X1_key S r_2) (fun r_3 => r_3)))
set_option maxHeartbeats 4000000 in
set_option maxRecDepth 100000 in
theorem c_X4_greatest (l : Launch) (D : va_G) (cy : ClassId) (ad : Nat → Nat) (S : cs_St) (a1 : Int32) : Met l yX4_greatest (cs_ws yX4_greatest cX4_greatest 2 (some .int)) (cs_rm 2 42) (cs_Pc D cy ad [.ref (ad 4), .int a1] S) (cs_Qi D cy ad (fun r S1 => r = m_X4_greatest S a1 ∧ S1 = S)) 0 0 (cs_A ad) := by
  refine cs_of RX4 (by decide) rfl (Nat.le_of_ble_eq_true rfl) ?_
  intro p e s m below meth c hF hr hlk hw hK ls hl
  obtain ⟨hx, hb, hml, hown, hts⟩ := id hF
  have hS : va_S (cs_A ad) s.heap s.heap [] := va_S.rf
  have hl : lv_has ls 2 [(0, .ref (ad 4)), (1, .int a1)] := hl
  generalize hRes : m_X4_greatest S a1 = Res
  unfold m_X4_greatest at hRes
  refine lv_aload_n hx hb dX4_greatest_0 rfl (lv_at hl 0 rfl) ?_
  refine cs_get (C := RX4) (T := TX4) (N := 8) hF in_X4 hw hK 4 rfl rfl 0 (by decide) q_127 rfl dX4_greatest_1 ?_
  refine lv_aload_n hx hb dX4_greatest_4 rfl (lv_at hl 0 rfl) ?_
  refine cs_get (C := RX4) (T := TX4) (N := 8) hF in_X4 hw hK 4 rfl rfl 1 (by decide) q_120 rfl dX4_greatest_5 ?_
  refine lv_aload_n hx hb dX4_greatest_8 rfl (lv_at hl 0 rfl) ?_
  refine cs_get (C := RX4) (T := TX4) (N := 8) hF in_X4 hw hK 4 rfl rfl 2 (by decide) q_121 rfl dX4_greatest_9 ?_
  refine lv_iload_n hx hb dX4_greatest_12 rfl (lv_at hl 1 rfl) ?_
  refine cs_vir hF (c_X3_at l D cy ad S 11 a1 (by decide)) (cwV 1 hts g_X4_46 rfl rfl rfl kk_X3_at ⟨Nat.le_of_ble_eq_true rfl, Nat.le_of_ble_eq_true rfl⟩) (cs_recvR hK hw (by decide)) hw hK hS rfl hl.1 [.ref (ad 26), .ref (ad 2)] rfl (Nat.le_of_ble_eq_true rfl) dX4_greatest_13 (fun r_1 H locs hq hw hS => ?_)
  replace hRes := cs_letE hq hRes
  clear hq
  refine lv_iconst (v := 1) hx hb dX4_greatest_16 (by decide) ?_
  refine lv_isub hx hb dX4_greatest_17 ?_
  refine cs_vir hF (c_X3_at l D cy ad S 10 (r_1 - 1) (by decide)) (cwV 1 hts g_X4_46 rfl rfl rfl kk_X3_at ⟨Nat.le_of_ble_eq_true rfl, Nat.le_of_ble_eq_true rfl⟩) (cs_recvR hK hw (by decide)) hw hK hS rfl hl.1 [.ref (ad 2)] rfl (Nat.le_of_ble_eq_true rfl) dX4_greatest_18 (fun r_2 H locs hq hw hS => ?_)
  replace hRes := cs_letE hq hRes
  clear hq
  refine cs_vir hF (c_X1_key l D cy ad S r_2) (cwV 1 hts g_X4_56 rfl rfl rfl kk_X1_key ⟨Nat.le_of_ble_eq_true rfl, Nat.le_of_ble_eq_true rfl⟩) (cs_recv hK hw (ci := 1) 2 rfl rfl) hw hK hS rfl hl.1 [] rfl (Nat.le_of_ble_eq_true rfl) dX4_greatest_21 (fun r_3 H locs hq hw hS => ?_)
  replace hRes := cs_letE hq hRes
  clear hq
  exact cs_iret hF hr hlk hw hK hS dX4_greatest_24 ⟨hRes, rfl⟩
theorem kk_X4_greatest : yX4_greatest.cls = RX4 ∧ yX4_greatest.cls ≠ "java/lang/invoke/MethodHandle" ∧ yX4_greatest.cls ≠ "java/lang/invoke/VarHandle" ∧ (parseMethodDescriptor yX4_greatest.desc).map (fun d => d.parameters.length) = some 1 := by decide +kernel
theorem g_X4_61 : GoodIn cs_WS (wsV RX4 61 RX4 yX4_least (cs_ws yX4_least cX4_least 2 (some .int))) := cs_goodV q_149 q_150 q_151 q_139 q_145
theorem g_X4_64 : GoodIn cs_WS (wsV RX4 64 RX4 yX4_greatest (cs_ws yX4_greatest cX4_greatest 2 (some .int))) := cs_goodV q_152 q_153 q_154 q_139 q_147
def m_X4_spans (S : cs_St) (a1 : Int32) (a2 : Int32) : Int32 := cs_let (m_X4_least S a1) (fun r_1 => (if a2 < r_1 then 0 else cs_let (m_X4_greatest S a1) (fun r_3 => (if r_3 < a2 then 0 else 1))))
set_option maxHeartbeats 4000000 in
set_option maxRecDepth 100000 in
theorem c_X4_spans (l : Launch) (D : va_G) (cy : ClassId) (ad : Nat → Nat) (S : cs_St) (a1 : Int32) (a2 : Int32) : Met l yX4_spans (cs_ws yX4_spans cX4_spans 3 (some .boolean)) (cs_rm 3 63) (cs_Pc D cy ad [.ref (ad 4), .int a1, .int a2] S) (cs_Qi D cy ad (fun r S1 => r = m_X4_spans S a1 a2 ∧ S1 = S)) 0 0 (cs_A ad) := by
  refine cs_of RX4 (by decide) rfl (Nat.le_of_ble_eq_true rfl) ?_
  intro p e s m below meth c hF hr hlk hw hK ls hl
  obtain ⟨hx, hb, hml, hown, hts⟩ := id hF
  have hS : va_S (cs_A ad) s.heap s.heap [] := va_S.rf
  have hl : lv_has ls 3 [(0, .ref (ad 4)), (1, .int a1), (2, .int a2)] := hl
  generalize hRes : m_X4_spans S a1 a2 = Res
  unfold m_X4_spans at hRes
  refine lv_aload_n hx hb dX4_spans_0 rfl (lv_at hl 0 rfl) ?_
  refine lv_iload_n hx hb dX4_spans_1 rfl (lv_at hl 1 rfl) ?_
  refine cs_vir hF (c_X4_least l D cy ad S a1) (cwV 1 hts g_X4_61 rfl rfl rfl kk_X4_least ⟨Nat.le_of_ble_eq_true rfl, Nat.le_of_ble_eq_true rfl⟩) (cs_recv hK hw (ci := 4) 4 rfl rfl) hw hK hS rfl hl.1 [] rfl (Nat.le_of_ble_eq_true rfl) dX4_spans_2 (fun r_1 H locs hq hw hS => ?_)
  replace hRes := cs_letE hq hRes
  clear hq
  refine lv_iload_n hx hb dX4_spans_5 rfl (lv_at hl 2 rfl) ?_
  refine lv_icmp_gt (tgt := 22) hx hb dX4_spans_6 (by decide) (fun c_2 => ?_) (fun c_2 => ?_)
  · replace hRes := cs_T c_2 hRes
    refine lv_iconst (v := 0) hx hb dX4_spans_22 (by decide) ?_
    exact cs_zret hF hr hlk hw hK hS dX4_spans_23 ⟨hRes, rfl⟩
  · replace hRes := cs_F c_2 hRes
    refine lv_iload_n hx hb dX4_spans_9 rfl (lv_at hl 2 rfl) ?_
    refine lv_aload_n hx hb dX4_spans_10 rfl (lv_at hl 0 rfl) ?_
    refine lv_iload_n hx hb dX4_spans_11 rfl (lv_at hl 1 rfl) ?_
    refine cs_vir hF (c_X4_greatest l D cy ad S a1) (cwV 1 hts g_X4_64 rfl rfl rfl kk_X4_greatest ⟨Nat.le_of_ble_eq_true rfl, Nat.le_of_ble_eq_true rfl⟩) (cs_recv hK hw (ci := 4) 4 rfl rfl) hw hK hS rfl hl.1 [.int a2] rfl (Nat.le_of_ble_eq_true rfl) dX4_spans_12 (fun r_3 H locs hq hw hS => ?_)
    replace hRes := cs_letE hq hRes
    clear hq
    refine lv_icmp_gt (tgt := 22) hx hb dX4_spans_15 (by decide) (fun c_4 => ?_) (fun c_4 => ?_)
    · replace hRes := cs_T c_4 hRes
      refine lv_iconst (v := 0) hx hb dX4_spans_22 (by decide) ?_
      exact cs_zret hF hr hlk hw hK hS dX4_spans_23 ⟨hRes, rfl⟩
    · replace hRes := cs_F c_4 hRes
      refine lv_iconst (v := 1) hx hb dX4_spans_18 (by decide) ?_
      refine lv_goto (tgt := 23) hx hb dX4_spans_19 (by decide) ?_
      exact cs_zret hF hr hlk hw hK hS dX4_spans_23 ⟨hRes, rfl⟩
theorem kk_X4_spans : yX4_spans.cls = RX4 ∧ yX4_spans.cls ≠ "java/lang/invoke/MethodHandle" ∧ yX4_spans.cls ≠ "java/lang/invoke/VarHandle" ∧ (parseMethodDescriptor yX4_spans.desc).map (fun d => d.parameters.length) = some 2 := by decide +kernel
theorem g_X4_67 : GoodIn cs_WS (wsV RX4 67 RX1 yX1_find (cs_ws yX1_find cX1_find 8 (some .int))) := cs_goodV q_156 q_108 q_109 q_91 q_63
def m_X4_find (S : cs_St) (a1 : Int32) (a2 : Int32) (a3 : Int32) : Int32 := cs_let (m_X4_begin S a1) (fun r_1 => cs_let (m_X3_at S 11 a1) (fun r_2 => cs_let (m_X1_find S 10 r_1 r_2 a2 a3) (fun r_3 => r_3)))
set_option maxHeartbeats 4000000 in
set_option maxRecDepth 100000 in
theorem c_X4_find (l : Launch) (D : va_G) (cy : ClassId) (ad : Nat → Nat) (S : cs_St) (a1 : Int32) (a2 : Int32) (a3 : Int32) : Met l yX4_find (cs_ws yX4_find cX4_find 4 (some .int)) (cs_rm 2 48) (cs_Pc D cy ad [.ref (ad 4), .int a1, .int a2, .int a3] S) (cs_Qi D cy ad (fun r S1 => r = m_X4_find S a1 a2 a3 ∧ S1 = S)) 0 0 (cs_A ad) := by
  refine cs_of RX4 (by decide) rfl (Nat.le_of_ble_eq_true rfl) ?_
  intro p e s m below meth c hF hr hlk hw hK ls hl
  obtain ⟨hx, hb, hml, hown, hts⟩ := id hF
  have hS : va_S (cs_A ad) s.heap s.heap [] := va_S.rf
  have hl : lv_has ls 4 [(0, .ref (ad 4)), (1, .int a1), (2, .int a2), (3, .int a3)] := hl
  generalize hRes : m_X4_find S a1 a2 a3 = Res
  unfold m_X4_find at hRes
  refine lv_aload_n hx hb dX4_find_0 rfl (lv_at hl 0 rfl) ?_
  refine cs_get (C := RX4) (T := TX4) (N := 8) hF in_X4 hw hK 4 rfl rfl 0 (by decide) q_127 rfl dX4_find_1 ?_
  refine lv_aload_n hx hb dX4_find_4 rfl (lv_at hl 0 rfl) ?_
  refine cs_get (C := RX4) (T := TX4) (N := 8) hF in_X4 hw hK 4 rfl rfl 1 (by decide) q_120 rfl dX4_find_5 ?_
  refine lv_aload_n hx hb dX4_find_8 rfl (lv_at hl 0 rfl) ?_
  refine lv_iload_n hx hb dX4_find_9 rfl (lv_at hl 1 rfl) ?_
  refine cs_vir hF (c_X4_begin l D cy ad S a1) (cwV 1 hts g_X4_50 rfl rfl rfl kk_X4_begin ⟨Nat.le_of_ble_eq_true rfl, Nat.le_of_ble_eq_true rfl⟩) (cs_recv hK hw (ci := 4) 4 rfl rfl) hw hK hS rfl hl.1 [.ref (ad 26), .ref (ad 2)] rfl (Nat.le_of_ble_eq_true rfl) dX4_find_10 (fun r_1 H locs hq hw hS => ?_)
  replace hRes := cs_letE hq hRes
  clear hq
  refine lv_aload_n hx hb dX4_find_13 rfl (lv_at hl 0 rfl) ?_
  refine cs_get (C := RX4) (T := TX4) (N := 8) hF in_X4 hw hK 4 rfl rfl 2 (by decide) q_121 rfl dX4_find_14 ?_
  refine lv_iload_n hx hb dX4_find_17 rfl (lv_at hl 1 rfl) ?_
  refine cs_vir hF (c_X3_at l D cy ad S 11 a1 (by decide)) (cwV 1 hts g_X4_46 rfl rfl rfl kk_X3_at ⟨Nat.le_of_ble_eq_true rfl, Nat.le_of_ble_eq_true rfl⟩) (cs_recvR hK hw (by decide)) hw hK hS rfl hl.1 [.int r_1, .ref (ad 26), .ref (ad 2)] rfl (Nat.le_of_ble_eq_true rfl) dX4_find_18 (fun r_2 H locs hq hw hS => ?_)
  replace hRes := cs_letE hq hRes
  clear hq
  refine lv_iload_n hx hb dX4_find_21 rfl (lv_at hl 2 rfl) ?_
  refine lv_iload_n hx hb dX4_find_22 rfl (lv_at hl 3 rfl) ?_
  refine cs_vir hF (c_X1_find l D cy ad S 10 r_1 r_2 a2 a3 (by decide)) (cwV 5 hts g_X4_67 rfl rfl rfl kk_X1_find ⟨Nat.le_of_ble_eq_true rfl, Nat.le_of_ble_eq_true rfl⟩) (cs_recv hK hw (ci := 1) 2 rfl rfl) hw hK hS rfl hl.1 [] rfl (Nat.le_of_ble_eq_true rfl) dX4_find_23 (fun r_3 H locs hq hw hS => ?_)
  replace hRes := cs_letE hq hRes
  clear hq
  exact cs_iret hF hr hlk hw hK hS dX4_find_26 ⟨hRes, rfl⟩
theorem kk_X4_find : yX4_find.cls = RX4 ∧ yX4_find.cls ≠ "java/lang/invoke/MethodHandle" ∧ yX4_find.cls ≠ "java/lang/invoke/VarHandle" ∧ (parseMethodDescriptor yX4_find.desc).map (fun d => d.parameters.length) = some 3 := by decide +kernel
def m_X4_leastOf_L7 (S : cs_St) (u1 : Int32) (u2 : Int32) : Nat → Int32 → Int32 → Int32 × Int32
  | 0, _, _ => (0, 0)
  | n + 1, v3, v4 => (if u2 ≤ v4 then (v3, v4) else cs_let (m_X4_least S v4) (fun r_2 => cs_let (if r_2 < v3 then r_2 else v3) (fun r_3 => m_X4_leastOf_L7 S u1 u2 n r_3 (v4 + 1))))
theorem m_X4_leastOf_L7_s {S : cs_St} {u1 : Int32} {u2 : Int32} {n : Nat} {v3 : Int32} {v4 : Int32} : m_X4_leastOf_L7 S u1 u2 (n + 1) v3 v4 = (if u2 ≤ v4 then (v3, v4) else cs_let (m_X4_least S v4) (fun r_2 => cs_let (if r_2 < v3 then r_2 else v3) (fun r_3 => m_X4_leastOf_L7 S u1 u2 n r_3 (v4 + 1)))) := rfl
def m_X4_leastOf (S : cs_St) (a1 : Int32) (a2 : Int32) : Int32 := cs_let (m_X4_leastOf_L7 S a1 a2 cs_N 9999 a1) (fun T_4 => T_4.1)
set_option maxHeartbeats 4000000 in
set_option maxRecDepth 100000 in
theorem c_X4_leastOf (l : Launch) (D : va_G) (cy : ClassId) (ad : Nat → Nat) (S : cs_St) (a1 : Int32) (a2 : Int32) : Met l yX4_leastOf (cs_ws yX4_leastOf cX4_leastOf 5 (some .int)) (cs_rm 3 63) (cs_Pc D cy ad [.ref (ad 4), .int a1, .int a2] S) (cs_Qi D cy ad (fun r S1 => r = m_X4_leastOf S a1 a2 ∧ S1 = S)) 0 0 (cs_A ad) := by
  refine cs_of RX4 (by decide) rfl (Nat.le_of_ble_eq_true rfl) ?_
  intro p e s m below meth c hF hr hlk hw hK ls hl
  obtain ⟨hx, hb, hml, hown, hts⟩ := id hF
  have hS : va_S (cs_A ad) s.heap s.heap [] := va_S.rf
  have hl : lv_has ls 5 [(0, .ref (ad 4)), (1, .int a1), (2, .int a2)] := hl
  generalize hRes : m_X4_leastOf S a1 a2 = Res
  unfold m_X4_leastOf at hRes
  refine lv_sipush (v := 9999) hx hb dX4_leastOf_0 (by decide) ?_
  refine lv_istore_n (lv' := [(3, .int 9999), (0, .ref (ad 4)), (1, .int a1), (2, .int a2)]) hx hb dX4_leastOf_3 rfl hl (by decide) rfl (fun ls hl => ?_)
  refine lv_iload_n hx hb dX4_leastOf_4 rfl (lv_at hl 2 rfl) ?_
  refine lv_istore (lv' := [(4, .int a1), (3, .int 9999), (0, .ref (ad 4)), (1, .int a1), (2, .int a2)]) hx hb dX4_leastOf_5 hl (by decide) rfl (fun ls hl => ?_)
  -- the loop at 7
  obtain ⟨T_4, hq⟩ : ∃ z, z = m_X4_leastOf_L7 S a1 a2 cs_N 9999 a1 := ⟨_, rfl⟩
  replace hRes := cs_letE hq hRes
  have hk : ∀ (H : Heap) (locs : List Loc) (ls : Array Slot), cs_w D cy ad S H → va_S (cs_A ad) s.heap H locs → lv_has ls 5 [(4, .int T_4.2), (3, .int T_4.1), (0, .ref (ad 4)), (1, .int a1), (2, .int a2)] → W p l e (cs_rm 3 63) s m ([.ref (ad 4), .int a1, .int a2]).toArray below meth c H locs 0 0 (MQ below (cs_Qi D cy ad (fun r S1 => r = Res ∧ S1 = S)) ([.ref (ad 4), .int a1, .int a2]).toArray s 0 0 (cs_A ad)) (F0 m 30 ls []) := by
    intro H locs ls hw hS hl
    refine lv_iload_n hx hb dX4_leastOf_30 rfl (lv_at hl 1 rfl) ?_
    exact cs_iret hF hr hlk hw hK hS dX4_leastOf_31 ⟨hRes, rfl⟩
  have lp : ∀ (n : Nat) (v3 : Int32) (v4 : Int32) (H : Heap) (locs : List Loc), cs_w D cy ad S H → va_S (cs_A ad) s.heap H locs → ∀ (ls : Array Slot), lv_has ls 5 [(4, .int v4), (3, .int v3), (0, .ref (ad 4)), (1, .int a1), (2, .int a2)] → (2147483647 - v4.toInt < (n : Int) ∧ 0 < n) → m_X4_leastOf_L7 S a1 a2 n v3 v4 = T_4 → W p l e (cs_rm 3 63) s m ([.ref (ad 4), .int a1, .int a2]).toArray below meth c H locs 0 0 (MQ below (cs_Qi D cy ad (fun r S1 => r = Res ∧ S1 = S)) ([.ref (ad 4), .int a1, .int a2]).toArray s 0 0 (cs_A ad)) (F0 m 7 ls []) := by
    intro n
    induction n with
    | zero => intro v3 v4 H locs hw hS ls hl hm; exact absurd hm.2 (Nat.lt_irrefl 0)
    | succ n ih =>
      intro v3 v4 H locs hw hS ls hl hm hE
      replace hE := m_X4_leastOf_L7_s.symm.trans hE
      refine lv_iload hx hb dX4_leastOf_7 (lv_at hl 0 rfl) ?_
      refine lv_iload_n hx hb dX4_leastOf_9 rfl (lv_at hl 4 rfl) ?_
      refine lv_icmp_ge (tgt := 30) hx hb dX4_leastOf_10 (by decide) (fun c_1 => ?_) (fun c_1 => ?_)
      · replace hE := cs_T c_1 hE
        subst hE
        exact hk _ _ _ hw hS (lv_sub hl [0, 1, 2, 3, 4] rfl)
      · replace hE := cs_F c_1 hE
        refine lv_iload_n hx hb dX4_leastOf_13 rfl (lv_at hl 1 rfl) ?_
        refine lv_aload_n hx hb dX4_leastOf_14 rfl (lv_at hl 2 rfl) ?_
        refine lv_iload hx hb dX4_leastOf_15 (lv_at hl 0 rfl) ?_
        refine cs_vir hF (c_X4_least l D cy ad S v4) (cwV 1 hts g_X4_61 rfl rfl rfl kk_X4_least ⟨Nat.le_of_ble_eq_true rfl, Nat.le_of_ble_eq_true rfl⟩) (cs_recv hK hw (ci := 4) 4 rfl rfl) hw hK hS rfl hl.1 [.int v3] rfl (Nat.le_of_ble_eq_true rfl) dX4_leastOf_17 (fun r_2 H locs hq hw hS => ?_)
        replace hE := cs_letE hq hE
        clear hq
        refine va_mmin hx hb (hml.trans hl.1.symm) hown (hts _ q_158) (hts _ q_159) (hts _ q_160) (hts _ q_161) (Nat.le_of_ble_eq_true rfl) (Nat.le_of_ble_eq_true rfl) (Nat.zero_le _) (Nat.zero_le _) dX4_leastOf_20 ?_
        refine lv_topi (fun r_3 hq => ?_)
        replace hE := cs_letE hq hE
        clear hq
        refine lv_istore_n (lv' := [(3, .int r_3), (4, .int v4), (0, .ref (ad 4)), (1, .int a1), (2, .int a2)]) hx hb dX4_leastOf_23 rfl hl (by decide) rfl (fun ls hl => ?_)
        refine lv_iinc (v := v4 + 1) (lv' := [(4, .int (v4 + 1)), (3, .int r_3), (0, .ref (ad 4)), (1, .int a1), (2, .int a2)]) hx hb dX4_leastOf_24 hl (k := 1) rfl rfl (by decide) rfl (fun ls hl => ?_)
        refine lv_goto (tgt := 7) hx hb dX4_leastOf_27 (by decide) ?_
        exact ih r_3 (v4 + 1) _ _ hw hS _ (lv_sub hl [0, 1, 2, 3, 4] rfl) (cs_up hm.1 c_1) hE
  exact lp cs_N 9999 a1 _ _ hw hS _ (lv_sub hl [0, 1, 2, 3, 4] rfl) (cs_up0 a1) hq.symm
theorem kk_X4_leastOf : yX4_leastOf.cls = RX4 ∧ yX4_leastOf.cls ≠ "java/lang/invoke/MethodHandle" ∧ yX4_leastOf.cls ≠ "java/lang/invoke/VarHandle" ∧ (parseMethodDescriptor yX4_leastOf.desc).map (fun d => d.parameters.length) = some 2 := by decide +kernel
def m_X4_greatestOf_L5 (S : cs_St) (u1 : Int32) (u2 : Int32) : Nat → Int32 → Int32 → Int32 × Int32
  | 0, _, _ => (0, 0)
  | n + 1, v3, v4 => (if u2 ≤ v4 then (v3, v4) else cs_let (m_X4_greatest S v4) (fun r_2 => cs_let (if v3 < r_2 then r_2 else v3) (fun r_3 => m_X4_greatestOf_L5 S u1 u2 n r_3 (v4 + 1))))
theorem m_X4_greatestOf_L5_s {S : cs_St} {u1 : Int32} {u2 : Int32} {n : Nat} {v3 : Int32} {v4 : Int32} : m_X4_greatestOf_L5 S u1 u2 (n + 1) v3 v4 = (if u2 ≤ v4 then (v3, v4) else cs_let (m_X4_greatest S v4) (fun r_2 => cs_let (if v3 < r_2 then r_2 else v3) (fun r_3 => m_X4_greatestOf_L5 S u1 u2 n r_3 (v4 + 1)))) := rfl
def m_X4_greatestOf (S : cs_St) (a1 : Int32) (a2 : Int32) : Int32 := cs_let (m_X4_greatestOf_L5 S a1 a2 cs_N 0 a1) (fun T_4 => T_4.1)
set_option maxHeartbeats 4000000 in
set_option maxRecDepth 100000 in
theorem c_X4_greatestOf (l : Launch) (D : va_G) (cy : ClassId) (ad : Nat → Nat) (S : cs_St) (a1 : Int32) (a2 : Int32) : Met l yX4_greatestOf (cs_ws yX4_greatestOf cX4_greatestOf 5 (some .int)) (cs_rm 3 63) (cs_Pc D cy ad [.ref (ad 4), .int a1, .int a2] S) (cs_Qi D cy ad (fun r S1 => r = m_X4_greatestOf S a1 a2 ∧ S1 = S)) 0 0 (cs_A ad) := by
  refine cs_of RX4 (by decide) rfl (Nat.le_of_ble_eq_true rfl) ?_
  intro p e s m below meth c hF hr hlk hw hK ls hl
  obtain ⟨hx, hb, hml, hown, hts⟩ := id hF
  have hS : va_S (cs_A ad) s.heap s.heap [] := va_S.rf
  have hl : lv_has ls 5 [(0, .ref (ad 4)), (1, .int a1), (2, .int a2)] := hl
  generalize hRes : m_X4_greatestOf S a1 a2 = Res
  unfold m_X4_greatestOf at hRes
  refine lv_iconst (v := 0) hx hb dX4_greatestOf_0 (by decide) ?_
  refine lv_istore_n (lv' := [(3, .int 0), (0, .ref (ad 4)), (1, .int a1), (2, .int a2)]) hx hb dX4_greatestOf_1 rfl hl (by decide) rfl (fun ls hl => ?_)
  refine lv_iload_n hx hb dX4_greatestOf_2 rfl (lv_at hl 2 rfl) ?_
  refine lv_istore (lv' := [(4, .int a1), (3, .int 0), (0, .ref (ad 4)), (1, .int a1), (2, .int a2)]) hx hb dX4_greatestOf_3 hl (by decide) rfl (fun ls hl => ?_)
  -- the loop at 5
  obtain ⟨T_4, hq⟩ : ∃ z, z = m_X4_greatestOf_L5 S a1 a2 cs_N 0 a1 := ⟨_, rfl⟩
  replace hRes := cs_letE hq hRes
  have hk : ∀ (H : Heap) (locs : List Loc) (ls : Array Slot), cs_w D cy ad S H → va_S (cs_A ad) s.heap H locs → lv_has ls 5 [(4, .int T_4.2), (3, .int T_4.1), (0, .ref (ad 4)), (1, .int a1), (2, .int a2)] → W p l e (cs_rm 3 63) s m ([.ref (ad 4), .int a1, .int a2]).toArray below meth c H locs 0 0 (MQ below (cs_Qi D cy ad (fun r S1 => r = Res ∧ S1 = S)) ([.ref (ad 4), .int a1, .int a2]).toArray s 0 0 (cs_A ad)) (F0 m 28 ls []) := by
    intro H locs ls hw hS hl
    refine lv_iload_n hx hb dX4_greatestOf_28 rfl (lv_at hl 1 rfl) ?_
    exact cs_iret hF hr hlk hw hK hS dX4_greatestOf_29 ⟨hRes, rfl⟩
  have lp : ∀ (n : Nat) (v3 : Int32) (v4 : Int32) (H : Heap) (locs : List Loc), cs_w D cy ad S H → va_S (cs_A ad) s.heap H locs → ∀ (ls : Array Slot), lv_has ls 5 [(4, .int v4), (3, .int v3), (0, .ref (ad 4)), (1, .int a1), (2, .int a2)] → (2147483647 - v4.toInt < (n : Int) ∧ 0 < n) → m_X4_greatestOf_L5 S a1 a2 n v3 v4 = T_4 → W p l e (cs_rm 3 63) s m ([.ref (ad 4), .int a1, .int a2]).toArray below meth c H locs 0 0 (MQ below (cs_Qi D cy ad (fun r S1 => r = Res ∧ S1 = S)) ([.ref (ad 4), .int a1, .int a2]).toArray s 0 0 (cs_A ad)) (F0 m 5 ls []) := by
    intro n
    induction n with
    | zero => intro v3 v4 H locs hw hS ls hl hm; exact absurd hm.2 (Nat.lt_irrefl 0)
    | succ n ih =>
      intro v3 v4 H locs hw hS ls hl hm hE
      replace hE := m_X4_greatestOf_L5_s.symm.trans hE
      refine lv_iload hx hb dX4_greatestOf_5 (lv_at hl 0 rfl) ?_
      refine lv_iload_n hx hb dX4_greatestOf_7 rfl (lv_at hl 4 rfl) ?_
      refine lv_icmp_ge (tgt := 28) hx hb dX4_greatestOf_8 (by decide) (fun c_1 => ?_) (fun c_1 => ?_)
      · replace hE := cs_T c_1 hE
        subst hE
        exact hk _ _ _ hw hS (lv_sub hl [0, 1, 2, 3, 4] rfl)
      · replace hE := cs_F c_1 hE
        refine lv_iload_n hx hb dX4_greatestOf_11 rfl (lv_at hl 1 rfl) ?_
        refine lv_aload_n hx hb dX4_greatestOf_12 rfl (lv_at hl 2 rfl) ?_
        refine lv_iload hx hb dX4_greatestOf_13 (lv_at hl 0 rfl) ?_
        refine cs_vir hF (c_X4_greatest l D cy ad S v4) (cwV 1 hts g_X4_64 rfl rfl rfl kk_X4_greatest ⟨Nat.le_of_ble_eq_true rfl, Nat.le_of_ble_eq_true rfl⟩) (cs_recv hK hw (ci := 4) 4 rfl rfl) hw hK hS rfl hl.1 [.int v3] rfl (Nat.le_of_ble_eq_true rfl) dX4_greatestOf_15 (fun r_2 H locs hq hw hS => ?_)
        replace hE := cs_letE hq hE
        clear hq
        refine va_mmax hx hb (hml.trans hl.1.symm) hown (hts _ q_163) (hts _ q_164) (hts _ q_160) (hts _ q_165) (Nat.le_of_ble_eq_true rfl) (Nat.le_of_ble_eq_true rfl) (Nat.zero_le _) (Nat.zero_le _) dX4_greatestOf_18 ?_
        refine lv_topi (fun r_3 hq => ?_)
        replace hE := cs_letE hq hE
        clear hq
        refine lv_istore_n (lv' := [(3, .int r_3), (4, .int v4), (0, .ref (ad 4)), (1, .int a1), (2, .int a2)]) hx hb dX4_greatestOf_21 rfl hl (by decide) rfl (fun ls hl => ?_)
        refine lv_iinc (v := v4 + 1) (lv' := [(4, .int (v4 + 1)), (3, .int r_3), (0, .ref (ad 4)), (1, .int a1), (2, .int a2)]) hx hb dX4_greatestOf_22 hl (k := 1) rfl rfl (by decide) rfl (fun ls hl => ?_)
        refine lv_goto (tgt := 5) hx hb dX4_greatestOf_25 (by decide) ?_
        exact ih r_3 (v4 + 1) _ _ hw hS _ (lv_sub hl [0, 1, 2, 3, 4] rfl) (cs_up hm.1 c_1) hE
  exact lp cs_N 0 a1 _ _ hw hS _ (lv_sub hl [0, 1, 2, 3, 4] rfl) (cs_up0 a1) hq.symm
theorem kk_X4_greatestOf : yX4_greatestOf.cls = RX4 ∧ yX4_greatestOf.cls ≠ "java/lang/invoke/MethodHandle" ∧ yX4_greatestOf.cls ≠ "java/lang/invoke/VarHandle" ∧ (parseMethodDescriptor yX4_greatestOf.desc).map (fun d => d.parameters.length) = some 2 := by decide +kernel
def m_X4_firstBeyond_L9 (S : cs_St) (u3 : Int32) (u1 : Int32) (u2 : Int32) : Nat → Int32 → Int32
  | 0, _ => 0
  | n + 1, v4 => cs_let (m_X3_at S 16 u1) (fun r_2 => (if r_2 ≤ v4 then cs_let (m_X3_at S 16 u1) (fun r_4 => r_4) else cs_let (m_X4_least S (u3 + v4)) (fun r_5 => (if r_5 ≤ u2 then m_X4_firstBeyond_L9 S u3 u1 u2 n (v4 + 1) else v4))))
theorem m_X4_firstBeyond_L9_s {S : cs_St} {u3 : Int32} {u1 : Int32} {u2 : Int32} {n : Nat} {v4 : Int32} : m_X4_firstBeyond_L9 S u3 u1 u2 (n + 1) v4 = cs_let (m_X3_at S 16 u1) (fun r_2 => (if r_2 ≤ v4 then cs_let (m_X3_at S 16 u1) (fun r_4 => r_4) else cs_let (m_X4_least S (u3 + v4)) (fun r_5 => (if r_5 ≤ u2 then m_X4_firstBeyond_L9 S u3 u1 u2 n (v4 + 1) else v4)))) := rfl
def m_X4_firstBeyond (S : cs_St) (a1 : Int32) (a2 : Int32) : Int32 := cs_let (m_X4_first S a1) (fun r_1 => m_X4_firstBeyond_L9 S r_1 a1 a2 cs_N 0)
set_option maxHeartbeats 4000000 in
set_option maxRecDepth 100000 in
theorem c_X4_firstBeyond (l : Launch) (D : va_G) (cy : ClassId) (ad : Nat → Nat) (S : cs_St) (a1 : Int32) (a2 : Int32) : Met l yX4_firstBeyond (cs_ws yX4_firstBeyond cX4_firstBeyond 5 (some .int)) (cs_rm 3 63) (cs_Pc D cy ad [.ref (ad 4), .int a1, .int a2] S) (cs_Qi D cy ad (fun r S1 => r = m_X4_firstBeyond S a1 a2 ∧ S1 = S)) 0 0 (cs_A ad) := by
  refine cs_of RX4 (by decide) rfl (Nat.le_of_ble_eq_true rfl) ?_
  intro p e s m below meth c hF hr hlk hw hK ls hl
  obtain ⟨hx, hb, hml, hown, hts⟩ := id hF
  have hS : va_S (cs_A ad) s.heap s.heap [] := va_S.rf
  have hl : lv_has ls 5 [(0, .ref (ad 4)), (1, .int a1), (2, .int a2)] := hl
  generalize hRes : m_X4_firstBeyond S a1 a2 = Res
  unfold m_X4_firstBeyond at hRes
  refine lv_aload_n hx hb dX4_firstBeyond_0 rfl (lv_at hl 0 rfl) ?_
  refine lv_iload_n hx hb dX4_firstBeyond_1 rfl (lv_at hl 1 rfl) ?_
  refine cs_vir hF (c_X4_first l D cy ad S a1) (cwV 1 hts g_X4_53 rfl rfl rfl kk_X4_first ⟨Nat.le_of_ble_eq_true rfl, Nat.le_of_ble_eq_true rfl⟩) (cs_recv hK hw (ci := 4) 4 rfl rfl) hw hK hS rfl hl.1 [] rfl (Nat.le_of_ble_eq_true rfl) dX4_firstBeyond_2 (fun r_1 H locs hq hw hS => ?_)
  replace hRes := cs_letE hq hRes
  clear hq
  refine lv_istore_n (lv' := [(3, .int r_1), (0, .ref (ad 4)), (1, .int a1), (2, .int a2)]) hx hb dX4_firstBeyond_5 rfl hl (by decide) rfl (fun ls hl => ?_)
  refine lv_iconst (v := 0) hx hb dX4_firstBeyond_6 (by decide) ?_
  refine lv_istore (lv' := [(4, .int 0), (3, .int r_1), (0, .ref (ad 4)), (1, .int a1), (2, .int a2)]) hx hb dX4_firstBeyond_7 hl (by decide) rfl (fun ls hl => ?_)
  -- the loop at 9
  have lp : ∀ (n : Nat) (v4 : Int32) (H : Heap) (locs : List Loc), cs_w D cy ad S H → va_S (cs_A ad) s.heap H locs → ∀ (ls : Array Slot), lv_has ls 5 [(4, .int v4), (3, .int r_1), (0, .ref (ad 4)), (1, .int a1), (2, .int a2)] → (2147483647 - v4.toInt < (n : Int) ∧ 0 < n) → m_X4_firstBeyond_L9 S r_1 a1 a2 n v4 = Res → W p l e (cs_rm 3 63) s m ([.ref (ad 4), .int a1, .int a2]).toArray below meth c H locs 0 0 (MQ below (cs_Qi D cy ad (fun r S1 => r = Res ∧ S1 = S)) ([.ref (ad 4), .int a1, .int a2]).toArray s 0 0 (cs_A ad)) (F0 m 9 ls []) := by
    intro n
    induction n with
    | zero => intro v4 H locs hw hS ls hl hm; exact absurd hm.2 (Nat.lt_irrefl 0)
    | succ n ih =>
      intro v4 H locs hw hS ls hl hm hRes
      replace hRes := m_X4_firstBeyond_L9_s.symm.trans hRes
      refine lv_iload hx hb dX4_firstBeyond_9 (lv_at hl 0 rfl) ?_
      refine lv_aload_n hx hb dX4_firstBeyond_11 rfl (lv_at hl 2 rfl) ?_
      refine cs_get (C := RX4) (T := TX4) (N := 8) hF in_X4 hw hK 4 rfl rfl 7 (by decide) q_126 rfl dX4_firstBeyond_12 ?_
      refine lv_iload_n hx hb dX4_firstBeyond_15 rfl (lv_at hl 3 rfl) ?_
      refine cs_vir hF (c_X3_at l D cy ad S 16 a1 (by decide)) (cwV 1 hts g_X4_46 rfl rfl rfl kk_X3_at ⟨Nat.le_of_ble_eq_true rfl, Nat.le_of_ble_eq_true rfl⟩) (cs_recvR hK hw (by decide)) hw hK hS rfl hl.1 [.int v4] rfl (Nat.le_of_ble_eq_true rfl) dX4_firstBeyond_16 (fun r_2 H locs hq hw hS => ?_)
      replace hRes := cs_letE hq hRes
      clear hq
      refine lv_icmp_ge (tgt := 43) hx hb dX4_firstBeyond_19 (by decide) (fun c_3 => ?_) (fun c_3 => ?_)
      · replace hRes := cs_T c_3 hRes
        refine lv_aload_n hx hb dX4_firstBeyond_43 rfl (lv_at hl 2 rfl) ?_
        refine cs_get (C := RX4) (T := TX4) (N := 8) hF in_X4 hw hK 4 rfl rfl 7 (by decide) q_126 rfl dX4_firstBeyond_44 ?_
        refine lv_iload_n hx hb dX4_firstBeyond_47 rfl (lv_at hl 3 rfl) ?_
        refine cs_vir hF (c_X3_at l D cy ad S 16 a1 (by decide)) (cwV 1 hts g_X4_46 rfl rfl rfl kk_X3_at ⟨Nat.le_of_ble_eq_true rfl, Nat.le_of_ble_eq_true rfl⟩) (cs_recvR hK hw (by decide)) hw hK hS rfl hl.1 [] rfl (Nat.le_of_ble_eq_true rfl) dX4_firstBeyond_48 (fun r_4 H locs hq hw hS => ?_)
        replace hRes := cs_letE hq hRes
        clear hq
        exact cs_iret hF hr hlk hw hK hS dX4_firstBeyond_51 ⟨hRes, rfl⟩
      · replace hRes := cs_F c_3 hRes
        refine lv_aload_n hx hb dX4_firstBeyond_22 rfl (lv_at hl 2 rfl) ?_
        refine lv_iload_n hx hb dX4_firstBeyond_23 rfl (lv_at hl 1 rfl) ?_
        refine lv_iload hx hb dX4_firstBeyond_24 (lv_at hl 0 rfl) ?_
        refine lv_iadd hx hb dX4_firstBeyond_26 ?_
        refine cs_vir hF (c_X4_least l D cy ad S (r_1 + v4)) (cwV 1 hts g_X4_61 rfl rfl rfl kk_X4_least ⟨Nat.le_of_ble_eq_true rfl, Nat.le_of_ble_eq_true rfl⟩) (cs_recv hK hw (ci := 4) 4 rfl rfl) hw hK hS rfl hl.1 [] rfl (Nat.le_of_ble_eq_true rfl) dX4_firstBeyond_27 (fun r_5 H locs hq hw hS => ?_)
        replace hRes := cs_letE hq hRes
        clear hq
        refine lv_iload_n hx hb dX4_firstBeyond_30 rfl (lv_at hl 4 rfl) ?_
        refine lv_icmp_le (tgt := 37) hx hb dX4_firstBeyond_31 (by decide) (fun c_6 => ?_) (fun c_6 => ?_)
        · replace hRes := cs_T c_6 hRes
          refine lv_iinc (v := v4 + 1) (lv' := [(4, .int (v4 + 1)), (3, .int r_1), (0, .ref (ad 4)), (1, .int a1), (2, .int a2)]) hx hb dX4_firstBeyond_37 hl (k := 0) rfl rfl (by decide) rfl (fun ls hl => ?_)
          refine lv_goto (tgt := 9) hx hb dX4_firstBeyond_40 (by decide) ?_
          exact ih (v4 + 1) _ _ hw hS _ (lv_sub hl [0, 1, 2, 3, 4] rfl) (cs_up hm.1 c_3) hRes
        · replace hRes := cs_F c_6 hRes
          refine lv_iload hx hb dX4_firstBeyond_34 (lv_at hl 0 rfl) ?_
          exact cs_iret hF hr hlk hw hK hS dX4_firstBeyond_36 ⟨hRes, rfl⟩
  exact lp cs_N 0 _ _ hw hS _ (lv_sub hl [0, 1, 2, 3, 4] rfl) (cs_up0 0) hRes
theorem kk_X4_firstBeyond : yX4_firstBeyond.cls = RX4 ∧ yX4_firstBeyond.cls ≠ "java/lang/invoke/MethodHandle" ∧ yX4_firstBeyond.cls ≠ "java/lang/invoke/VarHandle" ∧ (parseMethodDescriptor yX4_firstBeyond.desc).map (fun d => d.parameters.length) = some 2 := by decide +kernel
def m_X4_firstReaching_L9 (S : cs_St) (u3 : Int32) (u1 : Int32) (u2 : Int32) : Nat → Int32 → Int32
  | 0, _ => 0
  | n + 1, v4 => cs_let (m_X3_at S 16 u1) (fun r_2 => (if r_2 ≤ v4 then cs_let (m_X3_at S 16 u1) (fun r_4 => r_4) else cs_let (m_X4_greatest S (u3 + v4)) (fun r_5 => (if r_5 < u2 then m_X4_firstReaching_L9 S u3 u1 u2 n (v4 + 1) else v4))))
theorem m_X4_firstReaching_L9_s {S : cs_St} {u3 : Int32} {u1 : Int32} {u2 : Int32} {n : Nat} {v4 : Int32} : m_X4_firstReaching_L9 S u3 u1 u2 (n + 1) v4 = cs_let (m_X3_at S 16 u1) (fun r_2 => (if r_2 ≤ v4 then cs_let (m_X3_at S 16 u1) (fun r_4 => r_4) else cs_let (m_X4_greatest S (u3 + v4)) (fun r_5 => (if r_5 < u2 then m_X4_firstReaching_L9 S u3 u1 u2 n (v4 + 1) else v4)))) := rfl
def m_X4_firstReaching (S : cs_St) (a1 : Int32) (a2 : Int32) : Int32 := cs_let (m_X4_first S a1) (fun r_1 => m_X4_firstReaching_L9 S r_1 a1 a2 cs_N 0)
set_option maxHeartbeats 4000000 in
set_option maxRecDepth 100000 in
theorem c_X4_firstReaching (l : Launch) (D : va_G) (cy : ClassId) (ad : Nat → Nat) (S : cs_St) (a1 : Int32) (a2 : Int32) : Met l yX4_firstReaching (cs_ws yX4_firstReaching cX4_firstReaching 5 (some .int)) (cs_rm 3 63) (cs_Pc D cy ad [.ref (ad 4), .int a1, .int a2] S) (cs_Qi D cy ad (fun r S1 => r = m_X4_firstReaching S a1 a2 ∧ S1 = S)) 0 0 (cs_A ad) := by
  refine cs_of RX4 (by decide) rfl (Nat.le_of_ble_eq_true rfl) ?_
  intro p e s m below meth c hF hr hlk hw hK ls hl
  obtain ⟨hx, hb, hml, hown, hts⟩ := id hF
  have hS : va_S (cs_A ad) s.heap s.heap [] := va_S.rf
  have hl : lv_has ls 5 [(0, .ref (ad 4)), (1, .int a1), (2, .int a2)] := hl
  generalize hRes : m_X4_firstReaching S a1 a2 = Res
  unfold m_X4_firstReaching at hRes
  refine lv_aload_n hx hb dX4_firstReaching_0 rfl (lv_at hl 0 rfl) ?_
  refine lv_iload_n hx hb dX4_firstReaching_1 rfl (lv_at hl 1 rfl) ?_
  refine cs_vir hF (c_X4_first l D cy ad S a1) (cwV 1 hts g_X4_53 rfl rfl rfl kk_X4_first ⟨Nat.le_of_ble_eq_true rfl, Nat.le_of_ble_eq_true rfl⟩) (cs_recv hK hw (ci := 4) 4 rfl rfl) hw hK hS rfl hl.1 [] rfl (Nat.le_of_ble_eq_true rfl) dX4_firstReaching_2 (fun r_1 H locs hq hw hS => ?_)
  replace hRes := cs_letE hq hRes
  clear hq
  refine lv_istore_n (lv' := [(3, .int r_1), (0, .ref (ad 4)), (1, .int a1), (2, .int a2)]) hx hb dX4_firstReaching_5 rfl hl (by decide) rfl (fun ls hl => ?_)
  refine lv_iconst (v := 0) hx hb dX4_firstReaching_6 (by decide) ?_
  refine lv_istore (lv' := [(4, .int 0), (3, .int r_1), (0, .ref (ad 4)), (1, .int a1), (2, .int a2)]) hx hb dX4_firstReaching_7 hl (by decide) rfl (fun ls hl => ?_)
  -- the loop at 9
  have lp : ∀ (n : Nat) (v4 : Int32) (H : Heap) (locs : List Loc), cs_w D cy ad S H → va_S (cs_A ad) s.heap H locs → ∀ (ls : Array Slot), lv_has ls 5 [(4, .int v4), (3, .int r_1), (0, .ref (ad 4)), (1, .int a1), (2, .int a2)] → (2147483647 - v4.toInt < (n : Int) ∧ 0 < n) → m_X4_firstReaching_L9 S r_1 a1 a2 n v4 = Res → W p l e (cs_rm 3 63) s m ([.ref (ad 4), .int a1, .int a2]).toArray below meth c H locs 0 0 (MQ below (cs_Qi D cy ad (fun r S1 => r = Res ∧ S1 = S)) ([.ref (ad 4), .int a1, .int a2]).toArray s 0 0 (cs_A ad)) (F0 m 9 ls []) := by
    intro n
    induction n with
    | zero => intro v4 H locs hw hS ls hl hm; exact absurd hm.2 (Nat.lt_irrefl 0)
    | succ n ih =>
      intro v4 H locs hw hS ls hl hm hRes
      replace hRes := m_X4_firstReaching_L9_s.symm.trans hRes
      refine lv_iload hx hb dX4_firstReaching_9 (lv_at hl 0 rfl) ?_
      refine lv_aload_n hx hb dX4_firstReaching_11 rfl (lv_at hl 2 rfl) ?_
      refine cs_get (C := RX4) (T := TX4) (N := 8) hF in_X4 hw hK 4 rfl rfl 7 (by decide) q_126 rfl dX4_firstReaching_12 ?_
      refine lv_iload_n hx hb dX4_firstReaching_15 rfl (lv_at hl 3 rfl) ?_
      refine cs_vir hF (c_X3_at l D cy ad S 16 a1 (by decide)) (cwV 1 hts g_X4_46 rfl rfl rfl kk_X3_at ⟨Nat.le_of_ble_eq_true rfl, Nat.le_of_ble_eq_true rfl⟩) (cs_recvR hK hw (by decide)) hw hK hS rfl hl.1 [.int v4] rfl (Nat.le_of_ble_eq_true rfl) dX4_firstReaching_16 (fun r_2 H locs hq hw hS => ?_)
      replace hRes := cs_letE hq hRes
      clear hq
      refine lv_icmp_ge (tgt := 43) hx hb dX4_firstReaching_19 (by decide) (fun c_3 => ?_) (fun c_3 => ?_)
      · replace hRes := cs_T c_3 hRes
        refine lv_aload_n hx hb dX4_firstReaching_43 rfl (lv_at hl 2 rfl) ?_
        refine cs_get (C := RX4) (T := TX4) (N := 8) hF in_X4 hw hK 4 rfl rfl 7 (by decide) q_126 rfl dX4_firstReaching_44 ?_
        refine lv_iload_n hx hb dX4_firstReaching_47 rfl (lv_at hl 3 rfl) ?_
        refine cs_vir hF (c_X3_at l D cy ad S 16 a1 (by decide)) (cwV 1 hts g_X4_46 rfl rfl rfl kk_X3_at ⟨Nat.le_of_ble_eq_true rfl, Nat.le_of_ble_eq_true rfl⟩) (cs_recvR hK hw (by decide)) hw hK hS rfl hl.1 [] rfl (Nat.le_of_ble_eq_true rfl) dX4_firstReaching_48 (fun r_4 H locs hq hw hS => ?_)
        replace hRes := cs_letE hq hRes
        clear hq
        exact cs_iret hF hr hlk hw hK hS dX4_firstReaching_51 ⟨hRes, rfl⟩
      · replace hRes := cs_F c_3 hRes
        refine lv_aload_n hx hb dX4_firstReaching_22 rfl (lv_at hl 2 rfl) ?_
        refine lv_iload_n hx hb dX4_firstReaching_23 rfl (lv_at hl 1 rfl) ?_
        refine lv_iload hx hb dX4_firstReaching_24 (lv_at hl 0 rfl) ?_
        refine lv_iadd hx hb dX4_firstReaching_26 ?_
        refine cs_vir hF (c_X4_greatest l D cy ad S (r_1 + v4)) (cwV 1 hts g_X4_64 rfl rfl rfl kk_X4_greatest ⟨Nat.le_of_ble_eq_true rfl, Nat.le_of_ble_eq_true rfl⟩) (cs_recv hK hw (ci := 4) 4 rfl rfl) hw hK hS rfl hl.1 [] rfl (Nat.le_of_ble_eq_true rfl) dX4_firstReaching_27 (fun r_5 H locs hq hw hS => ?_)
        replace hRes := cs_letE hq hRes
        clear hq
        refine lv_iload_n hx hb dX4_firstReaching_30 rfl (lv_at hl 4 rfl) ?_
        refine lv_icmp_lt (tgt := 37) hx hb dX4_firstReaching_31 (by decide) (fun c_6 => ?_) (fun c_6 => ?_)
        · replace hRes := cs_T c_6 hRes
          refine lv_iinc (v := v4 + 1) (lv' := [(4, .int (v4 + 1)), (3, .int r_1), (0, .ref (ad 4)), (1, .int a1), (2, .int a2)]) hx hb dX4_firstReaching_37 hl (k := 0) rfl rfl (by decide) rfl (fun ls hl => ?_)
          refine lv_goto (tgt := 9) hx hb dX4_firstReaching_40 (by decide) ?_
          exact ih (v4 + 1) _ _ hw hS _ (lv_sub hl [0, 1, 2, 3, 4] rfl) (cs_up hm.1 c_3) hRes
        · replace hRes := cs_F c_6 hRes
          refine lv_iload hx hb dX4_firstReaching_34 (lv_at hl 0 rfl) ?_
          exact cs_iret hF hr hlk hw hK hS dX4_firstReaching_36 ⟨hRes, rfl⟩
  exact lp cs_N 0 _ _ hw hS _ (lv_sub hl [0, 1, 2, 3, 4] rfl) (cs_up0 0) hRes
theorem kk_X4_firstReaching : yX4_firstReaching.cls = RX4 ∧ yX4_firstReaching.cls ≠ "java/lang/invoke/MethodHandle" ∧ yX4_firstReaching.cls ≠ "java/lang/invoke/VarHandle" ∧ (parseMethodDescriptor yX4_firstReaching.desc).map (fun d => d.parameters.length) = some 2 := by decide +kernel
def m_X4_filterOf (S : cs_St) (a1 : Int32) : Int64 := cs_let (m_X3_at S 15 a1) (fun r_1 => cs_let (m_X3_at S 14 a1) (fun r_2 => ((r_1.toInt64 <<< ((32 : Int32).toInt64 &&& 63)) ||| (r_2.toInt64 &&& 4294967295))))
set_option maxHeartbeats 4000000 in
set_option maxRecDepth 100000 in
theorem c_X4_filterOf (l : Launch) (D : va_G) (cy : ClassId) (ad : Nat → Nat) (S : cs_St) (a1 : Int32) : Met l yX4_filterOf (cs_ws yX4_filterOf cX4_filterOf 2 (some .long)) (cs_rm 1 21) (cs_Pc D cy ad [.ref (ad 4), .int a1] S) (cs_Ql D cy ad (fun r S1 => r = m_X4_filterOf S a1 ∧ S1 = S)) 0 0 (cs_A ad) := by
  refine cs_of RX4 (by decide) rfl (Nat.le_of_ble_eq_true rfl) ?_
  intro p e s m below meth c hF hr hlk hw hK ls hl
  obtain ⟨hx, hb, hml, hown, hts⟩ := id hF
  have hS : va_S (cs_A ad) s.heap s.heap [] := va_S.rf
  have hl : lv_has ls 2 [(0, .ref (ad 4)), (1, .int a1)] := hl
  generalize hRes : m_X4_filterOf S a1 = Res
  unfold m_X4_filterOf at hRes
  refine lv_aload_n hx hb dX4_filterOf_0 rfl (lv_at hl 0 rfl) ?_
  refine cs_get (C := RX4) (T := TX4) (N := 8) hF in_X4 hw hK 4 rfl rfl 6 (by decide) q_125 rfl dX4_filterOf_1 ?_
  refine lv_iload_n hx hb dX4_filterOf_4 rfl (lv_at hl 1 rfl) ?_
  refine cs_vir hF (c_X3_at l D cy ad S 15 a1 (by decide)) (cwV 1 hts g_X4_46 rfl rfl rfl kk_X3_at ⟨Nat.le_of_ble_eq_true rfl, Nat.le_of_ble_eq_true rfl⟩) (cs_recvR hK hw (by decide)) hw hK hS rfl hl.1 [] rfl (Nat.le_of_ble_eq_true rfl) dX4_filterOf_5 (fun r_1 H locs hq hw hS => ?_)
  replace hRes := cs_letE hq hRes
  clear hq
  refine lv_i2l (v := r_1.toInt64) hx hb dX4_filterOf_8 rfl ?_
  refine lv_bipush (v := 32) hx hb dX4_filterOf_9 (by decide) ?_
  refine lv_lshl (v := r_1.toInt64 <<< ((32 : Int32).toInt64 &&& 63)) hx hb dX4_filterOf_11 rfl ?_
  refine lv_aload_n hx hb dX4_filterOf_12 rfl (lv_at hl 0 rfl) ?_
  refine cs_get (C := RX4) (T := TX4) (N := 8) hF in_X4 hw hK 4 rfl rfl 5 (by decide) q_124 rfl dX4_filterOf_13 ?_
  refine lv_iload_n hx hb dX4_filterOf_16 rfl (lv_at hl 1 rfl) ?_
  refine cs_vir hF (c_X3_at l D cy ad S 14 a1 (by decide)) (cwV 1 hts g_X4_46 rfl rfl rfl kk_X3_at ⟨Nat.le_of_ble_eq_true rfl, Nat.le_of_ble_eq_true rfl⟩) (cs_recvR hK hw (by decide)) hw hK hS rfl hl.1 [.long (r_1.toInt64 <<< ((32 : Int32).toInt64 &&& 63))] rfl (Nat.le_of_ble_eq_true rfl) dX4_filterOf_17 (fun r_2 H locs hq hw hS => ?_)
  replace hRes := cs_letE hq hRes
  clear hq
  refine lv_i2l (v := r_2.toInt64) hx hb dX4_filterOf_20 rfl ?_
  refine lv_ldc2 (v := 4294967295) hx hb hown (hts _ q_184) dX4_filterOf_21 ?_
  refine lv_land hx hb dX4_filterOf_24 ?_
  refine lv_lor hx hb dX4_filterOf_25 ?_
  exact cs_lret hF hr hlk hw hK hS dX4_filterOf_26 ⟨hRes, rfl⟩
theorem kk_X4_filterOf : yX4_filterOf.cls = RX4 ∧ yX4_filterOf.cls ≠ "java/lang/invoke/MethodHandle" ∧ yX4_filterOf.cls ≠ "java/lang/invoke/VarHandle" ∧ (parseMethodDescriptor yX4_filterOf.desc).map (fun d => d.parameters.length) = some 1 := by decide +kernel
def m_X4_bitsOf_L9 (S : cs_St) (u0 : Int32) (u1 : Int32) (u2 : Int32) : Nat → Int64 → Int32 → Int64 × Int32
  | 0, _, _ => (0, 0)
  | n + 1, v3, v5 => (if u2 < v5 then (v3, v5) else m_X4_bitsOf_L9 S u0 u1 u2 n (v3 ||| ((1 : Int64) <<< ((((u0 * ((2 * v5) + 1)) + (7 * v5)) - ((u0 * ((2 * v5) + 1)) + (7 * v5)) / u1 * u1).toInt64 &&& 63))) (v5 + 1))
theorem m_X4_bitsOf_L9_s {S : cs_St} {u0 : Int32} {u1 : Int32} {u2 : Int32} {n : Nat} {v3 : Int64} {v5 : Int32} : m_X4_bitsOf_L9 S u0 u1 u2 (n + 1) v3 v5 = (if u2 < v5 then (v3, v5) else m_X4_bitsOf_L9 S u0 u1 u2 n (v3 ||| ((1 : Int64) <<< ((((u0 * ((2 * v5) + 1)) + (7 * v5)) - ((u0 * ((2 * v5) + 1)) + (7 * v5)) / u1 * u1).toInt64 &&& 63))) (v5 + 1)) := rfl
def m_X4_bitsOf (S : cs_St) (a0 : Int32) (a1 : Int32) (a2 : Int32) : Int64 := (if a1 ≤ 0 then 0 else cs_let (m_X4_bitsOf_L9 S a0 a1 a2 cs_N 0 1) (fun T_3 => T_3.1))
set_option maxHeartbeats 4000000 in
set_option maxRecDepth 100000 in
theorem c_X4_bitsOf (l : Launch) (D : va_G) (cy : ClassId) (ad : Nat → Nat) (S : cs_St) (a0 : Int32) (a1 : Int32) (a2 : Int32) (g3 : a2 ≤ 3) : Met l yX4_bitsOf (cs_ws yX4_bitsOf cX4_bitsOf 6 (some .long)) (cs_rm 0 0) (cs_Pc D cy ad [.int a0, .int a1, .int a2] S) (cs_Ql D cy ad (fun r S1 => r = m_X4_bitsOf S a0 a1 a2 ∧ S1 = S)) 0 0 (cs_A ad) := by
  refine cs_of RX4 (by decide) rfl (Nat.le_of_ble_eq_true rfl) ?_
  intro p e s m below meth c hF hr hlk hw hK ls hl
  obtain ⟨hx, hb, hml, hown, hts⟩ := id hF
  have hS : va_S (cs_A ad) s.heap s.heap [] := va_S.rf
  have hl : lv_has ls 6 [(0, .int a0), (1, .int a1), (2, .int a2)] := hl
  generalize hRes : m_X4_bitsOf S a0 a1 a2 = Res
  unfold m_X4_bitsOf at hRes
  refine lv_lconst (v := 0) hx hb dX4_bitsOf_0 rfl ?_
  refine lv_lstore_n (lv' := [(3, .long 0), (0, .int a0), (1, .int a1), (2, .int a2)]) hx hb dX4_bitsOf_1 rfl hl (by decide) rfl (fun ls hl => ?_)
  refine lv_iload_n hx hb dX4_bitsOf_2 rfl (lv_at hl 2 rfl) ?_
  refine lv_if_le (tgt := 42) hx hb dX4_bitsOf_3 (by decide) (fun c_1 => ?_) (fun c_1 => ?_)
  · replace hRes := cs_T c_1 hRes
    refine lv_lload_n hx hb dX4_bitsOf_42 rfl (lv_at hl 0 rfl) ?_
    exact cs_lret hF hr hlk hw hK hS dX4_bitsOf_43 ⟨hRes, rfl⟩
  · replace hRes := cs_F c_1 hRes
    refine lv_iconst (v := 1) hx hb dX4_bitsOf_6 (by decide) ?_
    refine lv_istore (lv' := [(5, .int 1), (3, .long 0), (0, .int a0), (1, .int a1), (2, .int a2)]) hx hb dX4_bitsOf_7 hl (by decide) rfl (fun ls hl => ?_)
    -- the loop at 9
    obtain ⟨T_3, hq⟩ : ∃ z, z = m_X4_bitsOf_L9 S a0 a1 a2 cs_N 0 1 := ⟨_, rfl⟩
    replace hRes := cs_letE hq hRes
    have hk : ∀ (H : Heap) (locs : List Loc) (ls : Array Slot), cs_w D cy ad S H → va_S (cs_A ad) s.heap H locs → lv_has ls 6 [(5, .int T_3.2), (3, .long T_3.1), (0, .int a0), (1, .int a1), (2, .int a2)] → W p l e (cs_rm 0 0) s m ([.int a0, .int a1, .int a2]).toArray below meth c H locs 0 0 (MQ below (cs_Ql D cy ad (fun r S1 => r = Res ∧ S1 = S)) ([.int a0, .int a1, .int a2]).toArray s 0 0 (cs_A ad)) (F0 m 42 ls []) := by
      intro H locs ls hw hS hl
      refine lv_lload_n hx hb dX4_bitsOf_42 rfl (lv_at hl 1 rfl) ?_
      exact cs_lret hF hr hlk hw hK hS dX4_bitsOf_43 ⟨hRes, rfl⟩
    have lp : ∀ (n : Nat) (v3 : Int64) (v5 : Int32) (H : Heap) (locs : List Loc), cs_w D cy ad S H → va_S (cs_A ad) s.heap H locs → ∀ (ls : Array Slot), lv_has ls 6 [(5, .int v5), (3, .long v3), (0, .int a0), (1, .int a1), (2, .int a2)] → (2147483647 - v5.toInt < (n : Int) ∧ 0 < n) → m_X4_bitsOf_L9 S a0 a1 a2 n v3 v5 = T_3 → W p l e (cs_rm 0 0) s m ([.int a0, .int a1, .int a2]).toArray below meth c H locs 0 0 (MQ below (cs_Ql D cy ad (fun r S1 => r = Res ∧ S1 = S)) ([.int a0, .int a1, .int a2]).toArray s 0 0 (cs_A ad)) (F0 m 9 ls []) := by
      intro n
      induction n with
      | zero => intro v3 v5 H locs hw hS ls hl hm; exact absurd hm.2 (Nat.lt_irrefl 0)
      | succ n ih =>
        intro v3 v5 H locs hw hS ls hl hm hE
        replace hE := m_X4_bitsOf_L9_s.symm.trans hE
        refine lv_iload hx hb dX4_bitsOf_9 (lv_at hl 0 rfl) ?_
        refine lv_iload_n hx hb dX4_bitsOf_11 rfl (lv_at hl 4 rfl) ?_
        refine lv_icmp_gt (tgt := 42) hx hb dX4_bitsOf_12 (by decide) (fun c_2 => ?_) (fun c_2 => ?_)
        · replace hE := cs_T c_2 hE
          subst hE
          exact hk _ _ _ hw hS (lv_sub hl [0, 1, 2, 3, 4] rfl)
        · replace hE := cs_F c_2 hE
          refine lv_lload_n hx hb dX4_bitsOf_15 rfl (lv_at hl 1 rfl) ?_
          refine lv_lconst (v := 1) hx hb dX4_bitsOf_16 rfl ?_
          refine lv_iload_n hx hb dX4_bitsOf_17 rfl (lv_at hl 2 rfl) ?_
          refine lv_iconst (v := 2) hx hb dX4_bitsOf_18 (by decide) ?_
          refine lv_iload hx hb dX4_bitsOf_19 (lv_at hl 0 rfl) ?_
          refine lv_imul hx hb dX4_bitsOf_21 ?_
          refine lv_iconst (v := 1) hx hb dX4_bitsOf_22 (by decide) ?_
          refine lv_iadd hx hb dX4_bitsOf_23 ?_
          refine lv_imul hx hb dX4_bitsOf_24 ?_
          refine lv_bipush (v := 7) hx hb dX4_bitsOf_25 (by decide) ?_
          refine lv_iload hx hb dX4_bitsOf_27 (lv_at hl 0 rfl) ?_
          refine lv_imul hx hb dX4_bitsOf_29 ?_
          refine lv_iadd hx hb dX4_bitsOf_30 ?_
          refine lv_iload_n hx hb dX4_bitsOf_31 rfl (lv_at hl 3 rfl) ?_
          refine lv_irem hx hb dX4_bitsOf_32 (fun h => c_1 (by rw [h]; decide)) ?_
          refine lv_lshl (v := (1 : Int64) <<< ((((a0 * ((2 * v5) + 1)) + (7 * v5)) - ((a0 * ((2 * v5) + 1)) + (7 * v5)) / a1 * a1).toInt64 &&& 63)) hx hb dX4_bitsOf_33 rfl ?_
          refine lv_lor hx hb dX4_bitsOf_34 ?_
          refine lv_lstore_n (lv' := [(3, .long (v3 ||| ((1 : Int64) <<< ((((a0 * ((2 * v5) + 1)) + (7 * v5)) - ((a0 * ((2 * v5) + 1)) + (7 * v5)) / a1 * a1).toInt64 &&& 63)))), (5, .int v5), (0, .int a0), (1, .int a1), (2, .int a2)]) hx hb dX4_bitsOf_35 rfl hl (by decide) rfl (fun ls hl => ?_)
          refine lv_iinc (v := v5 + 1) (lv' := [(5, .int (v5 + 1)), (3, .long (v3 ||| ((1 : Int64) <<< ((((a0 * ((2 * v5) + 1)) + (7 * v5)) - ((a0 * ((2 * v5) + 1)) + (7 * v5)) / a1 * a1).toInt64 &&& 63)))), (0, .int a0), (1, .int a1), (2, .int a2)]) hx hb dX4_bitsOf_36 hl (k := 1) rfl rfl (by decide) rfl (fun ls hl => ?_)
          refine lv_goto (tgt := 9) hx hb dX4_bitsOf_39 (by decide) ?_
          exact ih (v3 ||| ((1 : Int64) <<< ((((a0 * ((2 * v5) + 1)) + (7 * v5)) - ((a0 * ((2 * v5) + 1)) + (7 * v5)) / a1 * a1).toInt64 &&& 63))) (v5 + 1) _ _ hw hS _ (lv_sub hl [0, 1, 2, 3, 4] rfl) (cs_up3 hm.1 c_2 g3) hE
    exact lp cs_N 0 1 _ _ hw hS _ (lv_sub hl [0, 1, 2, 3, 4] rfl) (cs_up0 1) hq.symm
theorem kk_X4_bitsOf : yX4_bitsOf.cls ≠ "java/lang/invoke/MethodHandle" ∧ yX4_bitsOf.cls ≠ "java/lang/invoke/VarHandle" ∧ (parseMethodDescriptor yX4_bitsOf.desc).map (fun d => d.parameters.length) = some 3 := by decide +kernel
theorem cs_at13 {S : cs_St} (h : cs_ok S) (x : Int32) : m_X3_at S 13 x ≤ 3 := cs_at13' h
theorem g_X4_87 : GoodIn cs_WS (va_wsS RX4 87 yX4_bitsOf (cs_ws yX4_bitsOf cX4_bitsOf 6 (some .long))) := cs_goodS q_173 q_174 q_139 q_168
theorem g_X4_100 : GoodIn cs_WS (wsV RX4 100 RX4 yX4_filterOf (cs_ws yX4_filterOf cX4_filterOf 2 (some .long))) := cs_goodV q_186 q_187 q_188 q_139 q_183
def m_X4_passes (S : cs_St) (a1 : Int32) (a2 : Int32) : Int32 := cs_let (m_X3_at S 12 a1) (fun r_1 => cs_let (m_X3_at S 13 a1) (fun r_2 => cs_let (m_X4_bitsOf S a2 r_1 r_2) (fun r_3 => cs_let (m_X4_filterOf S a1) (fun r_4 => (if (lg_cmp (r_4 &&& r_3) r_3) = 0 then 1 else 0)))))
set_option maxHeartbeats 4000000 in
set_option maxRecDepth 100000 in
theorem c_X4_passes (l : Launch) (D : va_G) (cy : ClassId) (ad : Nat → Nat) (S : cs_St) (a1 : Int32) (a2 : Int32) : Met l yX4_passes (cs_ws yX4_passes cX4_passes 5 (some .boolean)) (cs_rm 2 42) (cs_Pc D cy ad [.ref (ad 4), .int a1, .int a2] S) (cs_Qi D cy ad (fun r S1 => r = m_X4_passes S a1 a2 ∧ S1 = S)) 0 0 (cs_A ad) := by
  refine cs_of RX4 (by decide) rfl (Nat.le_of_ble_eq_true rfl) ?_
  intro p e s m below meth c hF hr hlk hw hK ls hl
  obtain ⟨hx, hb, hml, hown, hts⟩ := id hF
  have hS : va_S (cs_A ad) s.heap s.heap [] := va_S.rf
  have hl : lv_has ls 5 [(0, .ref (ad 4)), (1, .int a1), (2, .int a2)] := hl
  generalize hRes : m_X4_passes S a1 a2 = Res
  unfold m_X4_passes at hRes
  refine lv_iload_n hx hb dX4_passes_0 rfl (lv_at hl 2 rfl) ?_
  refine lv_aload_n hx hb dX4_passes_1 rfl (lv_at hl 0 rfl) ?_
  refine cs_get (C := RX4) (T := TX4) (N := 8) hF in_X4 hw hK 4 rfl rfl 3 (by decide) q_122 rfl dX4_passes_2 ?_
  refine lv_iload_n hx hb dX4_passes_5 rfl (lv_at hl 1 rfl) ?_
  refine cs_vir hF (c_X3_at l D cy ad S 12 a1 (by decide)) (cwV 1 hts g_X4_46 rfl rfl rfl kk_X3_at ⟨Nat.le_of_ble_eq_true rfl, Nat.le_of_ble_eq_true rfl⟩) (cs_recvR hK hw (by decide)) hw hK hS rfl hl.1 [.int a2] rfl (Nat.le_of_ble_eq_true rfl) dX4_passes_6 (fun r_1 H locs hq hw hS => ?_)
  replace hRes := cs_letE hq hRes
  clear hq
  refine lv_aload_n hx hb dX4_passes_9 rfl (lv_at hl 0 rfl) ?_
  refine cs_get (C := RX4) (T := TX4) (N := 8) hF in_X4 hw hK 4 rfl rfl 4 (by decide) q_123 rfl dX4_passes_10 ?_
  refine lv_iload_n hx hb dX4_passes_13 rfl (lv_at hl 1 rfl) ?_
  refine cs_vir hF (c_X3_at l D cy ad S 13 a1 (by decide)) (cwV 1 hts g_X4_46 rfl rfl rfl kk_X3_at ⟨Nat.le_of_ble_eq_true rfl, Nat.le_of_ble_eq_true rfl⟩) (cs_recvR hK hw (by decide)) hw hK hS rfl hl.1 [.int r_1, .int a2] rfl (Nat.le_of_ble_eq_true rfl) dX4_passes_14 (fun r_2 H locs hq hw hS => ?_)
  replace hRes := cs_letE hq hRes
  have g3 : r_2 ≤ 3 := by rw [hq]; exact cs_at13 hw.1 _
  clear hq
  refine cs_slr hF (c_X4_bitsOf l D cy ad S a2 r_1 r_2 (g3)) (va_cwS 3 hts g_X4_87 rfl rfl rfl kk_X4_bitsOf ⟨Nat.le_of_ble_eq_true rfl, Nat.le_of_ble_eq_true rfl⟩) hw hK hS rfl hl.1 [] rfl (Nat.le_of_ble_eq_true rfl) dX4_passes_17 (fun r_3 H locs hq hw hS => ?_)
  replace hRes := cs_letE hq hRes
  clear hq
  refine lv_lstore_n (lv' := [(3, .long r_3), (0, .ref (ad 4)), (1, .int a1), (2, .int a2)]) hx hb dX4_passes_20 rfl hl (by decide) rfl (fun ls hl => ?_)
  refine lv_aload_n hx hb dX4_passes_21 rfl (lv_at hl 1 rfl) ?_
  refine lv_iload_n hx hb dX4_passes_22 rfl (lv_at hl 2 rfl) ?_
  refine cs_vlr hF (c_X4_filterOf l D cy ad S a1) (cwV 1 hts g_X4_100 rfl rfl rfl kk_X4_filterOf ⟨Nat.le_of_ble_eq_true rfl, Nat.le_of_ble_eq_true rfl⟩) (cs_recv hK hw (ci := 4) 4 rfl rfl) hw hK hS rfl hl.1 [] rfl (Nat.le_of_ble_eq_true rfl) dX4_passes_23 (fun r_4 H locs hq hw hS => ?_)
  replace hRes := cs_letE hq hRes
  clear hq
  refine lv_lload_n hx hb dX4_passes_26 rfl (lv_at hl 0 rfl) ?_
  refine lv_land hx hb dX4_passes_27 ?_
  refine lv_lload_n hx hb dX4_passes_28 rfl (lv_at hl 0 rfl) ?_
  refine W.lcmp hx hb dX4_passes_29 ?_
  refine lv_if_ne (tgt := 37) hx hb dX4_passes_30 (by decide) (fun c_5 => ?_) (fun c_5 => ?_)
  · replace hRes := cs_F c_5 hRes
    refine lv_iconst (v := 0) hx hb dX4_passes_37 (by decide) ?_
    exact cs_zret hF hr hlk hw hK hS dX4_passes_38 ⟨hRes, rfl⟩
  · replace hRes := cs_T c_5 hRes
    refine lv_iconst (v := 1) hx hb dX4_passes_33 (by decide) ?_
    refine lv_goto (tgt := 38) hx hb dX4_passes_34 (by decide) ?_
    exact cs_zret hF hr hlk hw hK hS dX4_passes_38 ⟨hRes, rfl⟩
theorem kk_X4_passes : yX4_passes.cls = RX4 ∧ yX4_passes.cls ≠ "java/lang/invoke/MethodHandle" ∧ yX4_passes.cls ≠ "java/lang/invoke/VarHandle" ∧ (parseMethodDescriptor yX4_passes.desc).map (fun d => d.parameters.length) = some 2 := by decide +kernel
theorem m_X4_passes_01 (S : cs_St) (a1 a2 : Int32) : m_X4_passes S a1 a2 = 0 ∨ m_X4_passes S a1 a2 = 1 := by
  unfold m_X4_passes
  simp only [cs_let]
  split <;> first | exact Or.inl rfl | exact Or.inr rfl
theorem g_X4_80 : GoodIn cs_WS (wsV RX4 80 RX3 yX3_open (cs_ws yX3_open cX3_open 3 none)) := cs_goodV q_170 q_61 q_62 q_10 q_55
def m_X4_openRun (S : cs_St) (a1 : Int32) : cs_St := cs_let (m_X3_open S 11 a1 1) (fun S_1 => cs_let (m_X3_open S_1 12 a1 1) (fun S_2 => cs_let (m_X3_open S_2 13 a1 1) (fun S_3 => cs_let (m_X3_open S_3 14 a1 1) (fun S_4 => cs_let (m_X3_open S_4 15 a1 1) (fun S_5 => S_5)))))
set_option maxHeartbeats 4000000 in
set_option maxRecDepth 100000 in
theorem c_X4_openRun (l : Launch) (D : va_G) (cy : ClassId) (ad : Nat → Nat) (S : cs_St) (a1 : Int32) : Met l yX4_openRun (cs_ws yX4_openRun cX4_openRun 2 none) (cs_rm 2 82) (cs_Pc D cy ad [.ref (ad 4), .int a1] S) (cs_Qv D cy ad (fun S1 => S1 = m_X4_openRun S a1)) 0 0 (cs_A ad) := by
  refine cs_of RX4 (by decide) rfl (Nat.le_of_ble_eq_true rfl) ?_
  intro p e s m below meth c hF hr hlk hw hK ls hl
  obtain ⟨hx, hb, hml, hown, hts⟩ := id hF
  have hS : va_S (cs_A ad) s.heap s.heap [] := va_S.rf
  have hl : lv_has ls 2 [(0, .ref (ad 4)), (1, .int a1)] := hl
  generalize hRes : m_X4_openRun S a1 = Res
  unfold m_X4_openRun at hRes
  refine lv_aload_n hx hb dX4_openRun_0 rfl (lv_at hl 0 rfl) ?_
  refine cs_get (C := RX4) (T := TX4) (N := 8) hF in_X4 hw hK 4 rfl rfl 2 (by decide) q_121 rfl dX4_openRun_1 ?_
  refine lv_iload_n hx hb dX4_openRun_4 rfl (lv_at hl 1 rfl) ?_
  refine lv_iconst (v := 1) hx hb dX4_openRun_5 (by decide) ?_
  refine cs_vv hF (c_X3_open l D cy ad S 11 a1 1 (by decide)) (cwV 2 hts g_X4_80 rfl rfl rfl kk_X3_open ⟨Nat.le_of_ble_eq_true rfl, Nat.le_of_ble_eq_true rfl⟩) (cs_recvR hK hw (by decide)) hw hK hS rfl hl.1 [] rfl (Nat.le_of_ble_eq_true rfl) dX4_openRun_6 (fun S_1 H locs hq hw hS => ?_)
  replace hRes := cs_letE hq hRes
  clear hq
  refine lv_aload_n hx hb dX4_openRun_9 rfl (lv_at hl 0 rfl) ?_
  refine cs_get (C := RX4) (T := TX4) (N := 8) hF in_X4 hw hK 4 rfl rfl 3 (by decide) q_122 rfl dX4_openRun_10 ?_
  refine lv_iload_n hx hb dX4_openRun_13 rfl (lv_at hl 1 rfl) ?_
  refine lv_iconst (v := 1) hx hb dX4_openRun_14 (by decide) ?_
  refine cs_vv hF (c_X3_open l D cy ad S_1 12 a1 1 (by decide)) (cwV 2 hts g_X4_80 rfl rfl rfl kk_X3_open ⟨Nat.le_of_ble_eq_true rfl, Nat.le_of_ble_eq_true rfl⟩) (cs_recvR hK hw (by decide)) hw hK hS rfl hl.1 [] rfl (Nat.le_of_ble_eq_true rfl) dX4_openRun_15 (fun S_2 H locs hq hw hS => ?_)
  replace hRes := cs_letE hq hRes
  clear hq
  refine lv_aload_n hx hb dX4_openRun_18 rfl (lv_at hl 0 rfl) ?_
  refine cs_get (C := RX4) (T := TX4) (N := 8) hF in_X4 hw hK 4 rfl rfl 4 (by decide) q_123 rfl dX4_openRun_19 ?_
  refine lv_iload_n hx hb dX4_openRun_22 rfl (lv_at hl 1 rfl) ?_
  refine lv_iconst (v := 1) hx hb dX4_openRun_23 (by decide) ?_
  refine cs_vv hF (c_X3_open l D cy ad S_2 13 a1 1 (by decide)) (cwV 2 hts g_X4_80 rfl rfl rfl kk_X3_open ⟨Nat.le_of_ble_eq_true rfl, Nat.le_of_ble_eq_true rfl⟩) (cs_recvR hK hw (by decide)) hw hK hS rfl hl.1 [] rfl (Nat.le_of_ble_eq_true rfl) dX4_openRun_24 (fun S_3 H locs hq hw hS => ?_)
  replace hRes := cs_letE hq hRes
  clear hq
  refine lv_aload_n hx hb dX4_openRun_27 rfl (lv_at hl 0 rfl) ?_
  refine cs_get (C := RX4) (T := TX4) (N := 8) hF in_X4 hw hK 4 rfl rfl 5 (by decide) q_124 rfl dX4_openRun_28 ?_
  refine lv_iload_n hx hb dX4_openRun_31 rfl (lv_at hl 1 rfl) ?_
  refine lv_iconst (v := 1) hx hb dX4_openRun_32 (by decide) ?_
  refine cs_vv hF (c_X3_open l D cy ad S_3 14 a1 1 (by decide)) (cwV 2 hts g_X4_80 rfl rfl rfl kk_X3_open ⟨Nat.le_of_ble_eq_true rfl, Nat.le_of_ble_eq_true rfl⟩) (cs_recvR hK hw (by decide)) hw hK hS rfl hl.1 [] rfl (Nat.le_of_ble_eq_true rfl) dX4_openRun_33 (fun S_4 H locs hq hw hS => ?_)
  replace hRes := cs_letE hq hRes
  clear hq
  refine lv_aload_n hx hb dX4_openRun_36 rfl (lv_at hl 0 rfl) ?_
  refine cs_get (C := RX4) (T := TX4) (N := 8) hF in_X4 hw hK 4 rfl rfl 6 (by decide) q_125 rfl dX4_openRun_37 ?_
  refine lv_iload_n hx hb dX4_openRun_40 rfl (lv_at hl 1 rfl) ?_
  refine lv_iconst (v := 1) hx hb dX4_openRun_41 (by decide) ?_
  refine cs_vv hF (c_X3_open l D cy ad S_4 15 a1 1 (by decide)) (cwV 2 hts g_X4_80 rfl rfl rfl kk_X3_open ⟨Nat.le_of_ble_eq_true rfl, Nat.le_of_ble_eq_true rfl⟩) (cs_recvR hK hw (by decide)) hw hK hS rfl hl.1 [] rfl (Nat.le_of_ble_eq_true rfl) dX4_openRun_42 (fun S_5 H locs hq hw hS => ?_)
  replace hRes := cs_letE hq hRes
  clear hq
  exact cs_vret hF hr hlk hw hK hS dX4_openRun_45 hRes
theorem kk_X4_openRun : yX4_openRun.cls = RX4 ∧ yX4_openRun.cls ≠ "java/lang/invoke/MethodHandle" ∧ yX4_openRun.cls ≠ "java/lang/invoke/VarHandle" ∧ (parseMethodDescriptor yX4_openRun.desc).map (fun d => d.parameters.length) = some 1 := by decide +kernel
theorem g_X4_84 : GoodIn cs_WS (wsV RX4 84 RX3 yX3_write (cs_ws yX3_write cX3_write 3 none)) := cs_goodV q_172 q_58 q_59 q_10 q_54
theorem g_X4_91 : GoodIn cs_WS (wsV RX4 91 RX4 yX4_openRun (cs_ws yX4_openRun cX4_openRun 2 none)) := cs_goodV q_175 q_176 q_177 q_139 q_169
theorem g_X4_94 : GoodIn cs_WS (wsV RX4 94 RX3 yX3_raise (cs_ws yX3_raise cX3_raise 3 none)) := cs_goodV q_178 q_179 q_180 q_10 q_112
def m_X4_insert_L41 (j3 : Nat) (u10 : Int32) (u9 : Int32) (u8 : Int32) (u1 : Int32) (u2 : Int32) (u4 : Int32) (u5 : Int32) (u6 : Int32) (u7 : Int32) : Nat → Int64 → Int32 → cs_St → Int64 × Int32 × cs_St
  | 0, _, _, S => (0, 0, S)
  | n + 1, v11, v13, S => (if u10 ≤ v13 then (v11, v13, S) else cs_let (m_X3_at S j3 (u4 + v13)) (fun r_5 => cs_let (m_X3_write S 10 (u9 + v13) r_5) (fun S_6 => cs_let (m_X1_key S_6 r_5) (fun r_7 => cs_let (m_X4_bitsOf S_6 r_7 u6 u7) (fun r_8 => m_X4_insert_L41 j3 u10 u9 u8 u1 u2 u4 u5 u6 u7 n (v11 ||| r_8) (v13 + 1) S_6)))))
theorem m_X4_insert_L41_s {j3 : Nat} {u10 : Int32} {u9 : Int32} {u8 : Int32} {u1 : Int32} {u2 : Int32} {u4 : Int32} {u5 : Int32} {u6 : Int32} {u7 : Int32} {n : Nat} {v11 : Int64} {v13 : Int32} {S : cs_St} : m_X4_insert_L41 j3 u10 u9 u8 u1 u2 u4 u5 u6 u7 (n + 1) v11 v13 S = (if u10 ≤ v13 then (v11, v13, S) else cs_let (m_X3_at S j3 (u4 + v13)) (fun r_5 => cs_let (m_X3_write S 10 (u9 + v13) r_5) (fun S_6 => cs_let (m_X1_key S_6 r_5) (fun r_7 => cs_let (m_X4_bitsOf S_6 r_7 u6 u7) (fun r_8 => m_X4_insert_L41 j3 u10 u9 u8 u1 u2 u4 u5 u6 u7 n (v11 ||| r_8) (v13 + 1) S_6))))) := rfl
def m_X4_insert_L126 (j3 : Nat) (u11 : Int64) (u10 : Int32) (u9 : Int32) (u8 : Int32) (u1 : Int32) (u2 : Int32) (u4 : Int32) (u5 : Int32) (u6 : Int32) (u7 : Int32) : Nat → Int32 → cs_St → Int32 × cs_St
  | 0, _, S => (0, S)
  | n + 1, v13, S => cs_let (m_X3_length S 11) (fun r_12 => (if r_12 ≤ v13 then (v13, S) else cs_let (m_X3_raise S 11 v13 u10) (fun S_14 => m_X4_insert_L126 j3 u11 u10 u9 u8 u1 u2 u4 u5 u6 u7 n (v13 + 1) S_14)))
theorem m_X4_insert_L126_s {j3 : Nat} {u11 : Int64} {u10 : Int32} {u9 : Int32} {u8 : Int32} {u1 : Int32} {u2 : Int32} {u4 : Int32} {u5 : Int32} {u6 : Int32} {u7 : Int32} {n : Nat} {v13 : Int32} {S : cs_St} : m_X4_insert_L126 j3 u11 u10 u9 u8 u1 u2 u4 u5 u6 u7 (n + 1) v13 S = cs_let (m_X3_length S 11) (fun r_12 => (if r_12 ≤ v13 then (v13, S) else cs_let (m_X3_raise S 11 v13 u10) (fun S_14 => m_X4_insert_L126 j3 u11 u10 u9 u8 u1 u2 u4 u5 u6 u7 n (v13 + 1) S_14))) := rfl
def m_X4_insert (S : cs_St) (a1 : Int32) (a2 : Int32) (j3 : Nat) (a4 : Int32) (a5 : Int32) (a6 : Int32) (a7 : Int32) : cs_St := cs_let (m_X4_first S a1) (fun r_1 => cs_let (m_X4_begin S (r_1 + a2)) (fun r_2 => cs_let (m_X3_open S 10 r_2 (a5 - a4)) (fun S_3 => cs_let (m_X4_insert_L41 j3 (a5 - a4) r_2 (r_1 + a2) a1 a2 a4 a5 a6 a7 cs_N 0 0 S_3) (fun T_9 => cs_let (m_X4_openRun T_9.2.2 (r_1 + a2)) (fun S_10 => cs_let (m_X3_write S_10 11 (r_1 + a2) (r_2 + (a5 - a4))) (fun S_11 => cs_let (m_X4_insert_L126 j3 T_9.1 (a5 - a4) r_2 (r_1 + a2) a1 a2 a4 a5 a6 a7 cs_N ((r_1 + a2) + 1) S_11) (fun T_15 => cs_let (m_X3_write T_15.2 12 (r_1 + a2) a6) (fun S_16 => cs_let (m_X3_write S_16 13 (r_1 + a2) a7) (fun S_17 => cs_let (m_X3_write S_17 14 (r_1 + a2) T_9.1.toInt32) (fun S_18 => cs_let (m_X3_write S_18 15 (r_1 + a2) (((T_9.1.toUInt64 >>> ((32 : Int32).toInt64.toUInt64 &&& Int64.toUInt64 63)).toInt64).toInt32)) (fun S_19 => cs_let (m_X3_raise S_19 16 a1 1) (fun S_20 => S_20))))))))))))
set_option maxHeartbeats 4000000 in
set_option maxRecDepth 100000 in
theorem c_X4_insert (l : Launch) (D : va_G) (cy : ClassId) (ad : Nat → Nat) (S : cs_St) (a1 : Int32) (a2 : Int32) (j3 : Nat) (a4 : Int32) (a5 : Int32) (a6 : Int32) (a7 : Int32) (hj3 : j3 < 19) (g7 : a7 ≤ 3) : Met l yX4_insert (cs_ws yX4_insert cX4_insert 15 none) (cs_rm 3 103) (cs_Pc D cy ad [.ref (ad 4), .int a1, .int a2, .ref (ad (6 + 2 * j3)), .int a4, .int a5, .int a6, .int a7] S) (cs_Qv D cy ad (fun S1 => S1 = m_X4_insert S a1 a2 j3 a4 a5 a6 a7)) 0 0 (cs_A ad) := by
  refine cs_of RX4 (by decide) rfl (Nat.le_of_ble_eq_true rfl) ?_
  intro p e s m below meth c hF hr hlk hw hK ls hl
  obtain ⟨hx, hb, hml, hown, hts⟩ := id hF
  have hS : va_S (cs_A ad) s.heap s.heap [] := va_S.rf
  have hl : lv_has ls 15 [(0, .ref (ad 4)), (1, .int a1), (2, .int a2), (3, .ref (ad (6 + 2 * j3))), (4, .int a4), (5, .int a5), (6, .int a6), (7, .int a7)] := hl
  generalize hRes : m_X4_insert S a1 a2 j3 a4 a5 a6 a7 = Res
  unfold m_X4_insert at hRes
  refine lv_aload_n hx hb dX4_insert_0 rfl (lv_at hl 0 rfl) ?_
  refine lv_iload_n hx hb dX4_insert_1 rfl (lv_at hl 1 rfl) ?_
  refine cs_vir hF (c_X4_first l D cy ad S a1) (cwV 1 hts g_X4_53 rfl rfl rfl kk_X4_first ⟨Nat.le_of_ble_eq_true rfl, Nat.le_of_ble_eq_true rfl⟩) (cs_recv hK hw (ci := 4) 4 rfl rfl) hw hK hS rfl hl.1 [] rfl (Nat.le_of_ble_eq_true rfl) dX4_insert_2 (fun r_1 H locs hq hw hS => ?_)
  replace hRes := cs_letE hq hRes
  clear hq
  refine lv_iload_n hx hb dX4_insert_5 rfl (lv_at hl 2 rfl) ?_
  refine lv_iadd hx hb dX4_insert_6 ?_
  refine lv_istore (lv' := [(8, .int (r_1 + a2)), (0, .ref (ad 4)), (1, .int a1), (2, .int a2), (3, .ref (ad (6 + 2 * j3))), (4, .int a4), (5, .int a5), (6, .int a6), (7, .int a7)]) hx hb dX4_insert_7 hl (by decide) rfl (fun ls hl => ?_)
  refine lv_aload_n hx hb dX4_insert_9 rfl (lv_at hl 1 rfl) ?_
  refine lv_iload hx hb dX4_insert_10 (lv_at hl 0 rfl) ?_
  refine cs_vir hF (c_X4_begin l D cy ad S (r_1 + a2)) (cwV 1 hts g_X4_50 rfl rfl rfl kk_X4_begin ⟨Nat.le_of_ble_eq_true rfl, Nat.le_of_ble_eq_true rfl⟩) (cs_recv hK hw (ci := 4) 4 rfl rfl) hw hK hS rfl hl.1 [] rfl (Nat.le_of_ble_eq_true rfl) dX4_insert_12 (fun r_2 H locs hq hw hS => ?_)
  replace hRes := cs_letE hq hRes
  clear hq
  refine lv_istore (lv' := [(9, .int r_2), (8, .int (r_1 + a2)), (0, .ref (ad 4)), (1, .int a1), (2, .int a2), (3, .ref (ad (6 + 2 * j3))), (4, .int a4), (5, .int a5), (6, .int a6), (7, .int a7)]) hx hb dX4_insert_15 hl (by decide) rfl (fun ls hl => ?_)
  refine lv_iload hx hb dX4_insert_17 (lv_at hl 7 rfl) ?_
  refine lv_iload hx hb dX4_insert_19 (lv_at hl 6 rfl) ?_
  refine lv_isub hx hb dX4_insert_21 ?_
  refine lv_istore (lv' := [(10, .int (a5 - a4)), (9, .int r_2), (8, .int (r_1 + a2)), (0, .ref (ad 4)), (1, .int a1), (2, .int a2), (3, .ref (ad (6 + 2 * j3))), (4, .int a4), (5, .int a5), (6, .int a6), (7, .int a7)]) hx hb dX4_insert_22 hl (by decide) rfl (fun ls hl => ?_)
  refine lv_lconst (v := 0) hx hb dX4_insert_24 rfl ?_
  refine lv_lstore (lv' := [(11, .long 0), (10, .int (a5 - a4)), (9, .int r_2), (8, .int (r_1 + a2)), (0, .ref (ad 4)), (1, .int a1), (2, .int a2), (3, .ref (ad (6 + 2 * j3))), (4, .int a4), (5, .int a5), (6, .int a6), (7, .int a7)]) hx hb dX4_insert_25 hl (by decide) rfl (fun ls hl => ?_)
  refine lv_aload_n hx hb dX4_insert_27 rfl (lv_at hl 4 rfl) ?_
  refine cs_get (C := RX4) (T := TX4) (N := 8) hF in_X4 hw hK 4 rfl rfl 1 (by decide) q_120 rfl dX4_insert_28 ?_
  refine lv_iload hx hb dX4_insert_31 (lv_at hl 2 rfl) ?_
  refine lv_iload hx hb dX4_insert_33 (lv_at hl 1 rfl) ?_
  refine cs_vv hF (c_X3_open l D cy ad S 10 r_2 (a5 - a4) (by decide)) (cwV 2 hts g_X4_80 rfl rfl rfl kk_X3_open ⟨Nat.le_of_ble_eq_true rfl, Nat.le_of_ble_eq_true rfl⟩) (cs_recvR hK hw (by decide)) hw hK hS rfl hl.1 [] rfl (Nat.le_of_ble_eq_true rfl) dX4_insert_35 (fun S_3 H locs hq hw hS => ?_)
  replace hRes := cs_letE hq hRes
  clear hq
  refine lv_iconst (v := 0) hx hb dX4_insert_38 (by decide) ?_
  refine lv_istore (lv' := [(13, .int 0), (11, .long 0), (10, .int (a5 - a4)), (9, .int r_2), (8, .int (r_1 + a2)), (0, .ref (ad 4)), (1, .int a1), (2, .int a2), (3, .ref (ad (6 + 2 * j3))), (4, .int a4), (5, .int a5), (6, .int a6), (7, .int a7)]) hx hb dX4_insert_39 hl (by decide) rfl (fun ls hl => ?_)
  -- the loop at 41
  obtain ⟨T_9, hq⟩ : ∃ z, z = m_X4_insert_L41 j3 (a5 - a4) r_2 (r_1 + a2) a1 a2 a4 a5 a6 a7 cs_N 0 0 S_3 := ⟨_, rfl⟩
  replace hRes := cs_letE hq hRes
  have hk : ∀ (H : Heap) (locs : List Loc) (ls : Array Slot), cs_w D cy ad T_9.2.2 H → va_S (cs_A ad) s.heap H locs → lv_has ls 15 [(13, .int T_9.2.1), (11, .long T_9.1), (10, .int (a5 - a4)), (9, .int r_2), (8, .int (r_1 + a2)), (0, .ref (ad 4)), (1, .int a1), (2, .int a2), (3, .ref (ad (6 + 2 * j3))), (4, .int a4), (5, .int a5), (6, .int a6), (7, .int a7)] → W p l e (cs_rm 3 103) s m ([.ref (ad 4), .int a1, .int a2, .ref (ad (6 + 2 * j3)), .int a4, .int a5, .int a6, .int a7]).toArray below meth c H locs 0 0 (MQ below (cs_Qv D cy ad (fun S1 => S1 = Res)) ([.ref (ad 4), .int a1, .int a2, .ref (ad (6 + 2 * j3)), .int a4, .int a5, .int a6, .int a7]).toArray s 0 0 (cs_A ad)) (F0 m 100 ls []) := by
    intro H locs ls hw hS hl
    refine lv_aload_n hx hb dX4_insert_100 rfl (lv_at hl 5 rfl) ?_
    refine lv_iload hx hb dX4_insert_101 (lv_at hl 4 rfl) ?_
    refine cs_vv hF (c_X4_openRun l D cy ad T_9.2.2 (r_1 + a2)) (cwV 1 hts g_X4_91 rfl rfl rfl kk_X4_openRun ⟨Nat.le_of_ble_eq_true rfl, Nat.le_of_ble_eq_true rfl⟩) (cs_recv hK hw (ci := 4) 4 rfl rfl) hw hK hS rfl hl.1 [] rfl (Nat.le_of_ble_eq_true rfl) dX4_insert_103 (fun S_10 H locs hq hw hS => ?_)
    replace hRes := cs_letE hq hRes
    clear hq
    refine lv_aload_n hx hb dX4_insert_106 rfl (lv_at hl 5 rfl) ?_
    refine cs_get (C := RX4) (T := TX4) (N := 8) hF in_X4 hw hK 4 rfl rfl 2 (by decide) q_121 rfl dX4_insert_107 ?_
    refine lv_iload hx hb dX4_insert_110 (lv_at hl 4 rfl) ?_
    refine lv_iload hx hb dX4_insert_112 (lv_at hl 3 rfl) ?_
    refine lv_iload hx hb dX4_insert_114 (lv_at hl 2 rfl) ?_
    refine lv_iadd hx hb dX4_insert_116 ?_
    refine cs_vv hF (c_X3_write l D cy ad S_10 11 (r_1 + a2) (r_2 + (a5 - a4)) (by decide) (fun h => absurd h (by decide))) (cwV 2 hts g_X4_84 rfl rfl rfl kk_X3_write ⟨Nat.le_of_ble_eq_true rfl, Nat.le_of_ble_eq_true rfl⟩) (cs_recvR hK hw (by decide)) hw hK hS rfl hl.1 [] rfl (Nat.le_of_ble_eq_true rfl) dX4_insert_117 (fun S_11 H locs hq hw hS => ?_)
    replace hRes := cs_letE hq hRes
    clear hq
    refine lv_iload hx hb dX4_insert_120 (lv_at hl 4 rfl) ?_
    refine lv_iconst (v := 1) hx hb dX4_insert_122 (by decide) ?_
    refine lv_iadd hx hb dX4_insert_123 ?_
    refine lv_istore (lv' := [(13, .int ((r_1 + a2) + 1)), (11, .long T_9.1), (10, .int (a5 - a4)), (9, .int r_2), (8, .int (r_1 + a2)), (0, .ref (ad 4)), (1, .int a1), (2, .int a2), (3, .ref (ad (6 + 2 * j3))), (4, .int a4), (5, .int a5), (6, .int a6), (7, .int a7)]) hx hb dX4_insert_124 hl (by decide) rfl (fun ls hl => ?_)
    -- the loop at 126
    obtain ⟨T_15, hq⟩ : ∃ z, z = m_X4_insert_L126 j3 T_9.1 (a5 - a4) r_2 (r_1 + a2) a1 a2 a4 a5 a6 a7 cs_N ((r_1 + a2) + 1) S_11 := ⟨_, rfl⟩
    replace hRes := cs_letE hq hRes
    have hk : ∀ (H : Heap) (locs : List Loc) (ls : Array Slot), cs_w D cy ad T_15.2 H → va_S (cs_A ad) s.heap H locs → lv_has ls 15 [(13, .int T_15.1), (11, .long T_9.1), (10, .int (a5 - a4)), (9, .int r_2), (8, .int (r_1 + a2)), (0, .ref (ad 4)), (1, .int a1), (2, .int a2), (3, .ref (ad (6 + 2 * j3))), (4, .int a4), (5, .int a5), (6, .int a6), (7, .int a7)] → W p l e (cs_rm 3 103) s m ([.ref (ad 4), .int a1, .int a2, .ref (ad (6 + 2 * j3)), .int a4, .int a5, .int a6, .int a7]).toArray below meth c H locs 0 0 (MQ below (cs_Qv D cy ad (fun S1 => S1 = Res)) ([.ref (ad 4), .int a1, .int a2, .ref (ad (6 + 2 * j3)), .int a4, .int a5, .int a6, .int a7]).toArray s 0 0 (cs_A ad)) (F0 m 155 ls []) := by
      intro H locs ls hw hS hl
      refine lv_aload_n hx hb dX4_insert_155 rfl (lv_at hl 5 rfl) ?_
      refine cs_get (C := RX4) (T := TX4) (N := 8) hF in_X4 hw hK 4 rfl rfl 3 (by decide) q_122 rfl dX4_insert_156 ?_
      refine lv_iload hx hb dX4_insert_159 (lv_at hl 4 rfl) ?_
      refine lv_iload hx hb dX4_insert_161 (lv_at hl 11 rfl) ?_
      refine cs_vv hF (c_X3_write l D cy ad T_15.2 12 (r_1 + a2) a6 (by decide) (fun h => absurd h (by decide))) (cwV 2 hts g_X4_84 rfl rfl rfl kk_X3_write ⟨Nat.le_of_ble_eq_true rfl, Nat.le_of_ble_eq_true rfl⟩) (cs_recvR hK hw (by decide)) hw hK hS rfl hl.1 [] rfl (Nat.le_of_ble_eq_true rfl) dX4_insert_163 (fun S_16 H locs hq hw hS => ?_)
      replace hRes := cs_letE hq hRes
      clear hq
      refine lv_aload_n hx hb dX4_insert_166 rfl (lv_at hl 5 rfl) ?_
      refine cs_get (C := RX4) (T := TX4) (N := 8) hF in_X4 hw hK 4 rfl rfl 4 (by decide) q_123 rfl dX4_insert_167 ?_
      refine lv_iload hx hb dX4_insert_170 (lv_at hl 4 rfl) ?_
      refine lv_iload hx hb dX4_insert_172 (lv_at hl 12 rfl) ?_
      refine cs_vv hF (c_X3_write l D cy ad S_16 13 (r_1 + a2) a7 (by decide) (fun _ => g7)) (cwV 2 hts g_X4_84 rfl rfl rfl kk_X3_write ⟨Nat.le_of_ble_eq_true rfl, Nat.le_of_ble_eq_true rfl⟩) (cs_recvR hK hw (by decide)) hw hK hS rfl hl.1 [] rfl (Nat.le_of_ble_eq_true rfl) dX4_insert_174 (fun S_17 H locs hq hw hS => ?_)
      replace hRes := cs_letE hq hRes
      clear hq
      refine lv_aload_n hx hb dX4_insert_177 rfl (lv_at hl 5 rfl) ?_
      refine cs_get (C := RX4) (T := TX4) (N := 8) hF in_X4 hw hK 4 rfl rfl 5 (by decide) q_124 rfl dX4_insert_178 ?_
      refine lv_iload hx hb dX4_insert_181 (lv_at hl 4 rfl) ?_
      refine lv_lload hx hb dX4_insert_183 (lv_at hl 1 rfl) ?_
      refine lv_l2i (v := T_9.1.toInt32) hx hb dX4_insert_185 rfl ?_
      refine cs_vv hF (c_X3_write l D cy ad S_17 14 (r_1 + a2) T_9.1.toInt32 (by decide) (fun h => absurd h (by decide))) (cwV 2 hts g_X4_84 rfl rfl rfl kk_X3_write ⟨Nat.le_of_ble_eq_true rfl, Nat.le_of_ble_eq_true rfl⟩) (cs_recvR hK hw (by decide)) hw hK hS rfl hl.1 [] rfl (Nat.le_of_ble_eq_true rfl) dX4_insert_186 (fun S_18 H locs hq hw hS => ?_)
      replace hRes := cs_letE hq hRes
      clear hq
      refine lv_aload_n hx hb dX4_insert_189 rfl (lv_at hl 5 rfl) ?_
      refine cs_get (C := RX4) (T := TX4) (N := 8) hF in_X4 hw hK 4 rfl rfl 6 (by decide) q_125 rfl dX4_insert_190 ?_
      refine lv_iload hx hb dX4_insert_193 (lv_at hl 4 rfl) ?_
      refine lv_lload hx hb dX4_insert_195 (lv_at hl 1 rfl) ?_
      refine lv_bipush (v := 32) hx hb dX4_insert_197 (by decide) ?_
      refine lv_lushr (v := (T_9.1.toUInt64 >>> ((32 : Int32).toInt64.toUInt64 &&& Int64.toUInt64 63)).toInt64) hx hb dX4_insert_199 rfl ?_
      refine lv_l2i (v := ((T_9.1.toUInt64 >>> ((32 : Int32).toInt64.toUInt64 &&& Int64.toUInt64 63)).toInt64).toInt32) hx hb dX4_insert_200 rfl ?_
      refine cs_vv hF (c_X3_write l D cy ad S_18 15 (r_1 + a2) (((T_9.1.toUInt64 >>> ((32 : Int32).toInt64.toUInt64 &&& Int64.toUInt64 63)).toInt64).toInt32) (by decide) (fun h => absurd h (by decide))) (cwV 2 hts g_X4_84 rfl rfl rfl kk_X3_write ⟨Nat.le_of_ble_eq_true rfl, Nat.le_of_ble_eq_true rfl⟩) (cs_recvR hK hw (by decide)) hw hK hS rfl hl.1 [] rfl (Nat.le_of_ble_eq_true rfl) dX4_insert_201 (fun S_19 H locs hq hw hS => ?_)
      replace hRes := cs_letE hq hRes
      clear hq
      refine lv_aload_n hx hb dX4_insert_204 rfl (lv_at hl 5 rfl) ?_
      refine cs_get (C := RX4) (T := TX4) (N := 8) hF in_X4 hw hK 4 rfl rfl 7 (by decide) q_126 rfl dX4_insert_205 ?_
      refine lv_iload_n hx hb dX4_insert_208 rfl (lv_at hl 6 rfl) ?_
      refine lv_iconst (v := 1) hx hb dX4_insert_209 (by decide) ?_
      refine cs_vv hF (c_X3_raise l D cy ad S_19 16 a1 1 (by decide) (by decide)) (cwV 2 hts g_X4_94 rfl rfl rfl kk_X3_raise ⟨Nat.le_of_ble_eq_true rfl, Nat.le_of_ble_eq_true rfl⟩) (cs_recvR hK hw (by decide)) hw hK hS rfl hl.1 [] rfl (Nat.le_of_ble_eq_true rfl) dX4_insert_210 (fun S_20 H locs hq hw hS => ?_)
      replace hRes := cs_letE hq hRes
      clear hq
      exact cs_vret hF hr hlk hw hK hS dX4_insert_213 hRes
    have lp : ∀ (n : Nat) (v13 : Int32) (S : cs_St) (H : Heap) (locs : List Loc), cs_w D cy ad S H → va_S (cs_A ad) s.heap H locs → ∀ (ls : Array Slot), lv_has ls 15 [(13, .int v13), (11, .long T_9.1), (10, .int (a5 - a4)), (9, .int r_2), (8, .int (r_1 + a2)), (0, .ref (ad 4)), (1, .int a1), (2, .int a2), (3, .ref (ad (6 + 2 * j3))), (4, .int a4), (5, .int a5), (6, .int a6), (7, .int a7)] → (2147483647 - v13.toInt < (n : Int) ∧ 0 < n) → m_X4_insert_L126 j3 T_9.1 (a5 - a4) r_2 (r_1 + a2) a1 a2 a4 a5 a6 a7 n v13 S = T_15 → W p l e (cs_rm 3 103) s m ([.ref (ad 4), .int a1, .int a2, .ref (ad (6 + 2 * j3)), .int a4, .int a5, .int a6, .int a7]).toArray below meth c H locs 0 0 (MQ below (cs_Qv D cy ad (fun S1 => S1 = Res)) ([.ref (ad 4), .int a1, .int a2, .ref (ad (6 + 2 * j3)), .int a4, .int a5, .int a6, .int a7]).toArray s 0 0 (cs_A ad)) (F0 m 126 ls []) := by
      intro n
      induction n with
      | zero => intro v13 S H locs hw hS ls hl hm; exact absurd hm.2 (Nat.lt_irrefl 0)
      | succ n ih =>
        intro v13 S H locs hw hS ls hl hm hE
        replace hE := m_X4_insert_L126_s.symm.trans hE
        refine lv_iload hx hb dX4_insert_126 (lv_at hl 0 rfl) ?_
        refine lv_aload_n hx hb dX4_insert_128 rfl (lv_at hl 5 rfl) ?_
        refine cs_get (C := RX4) (T := TX4) (N := 8) hF in_X4 hw hK 4 rfl rfl 2 (by decide) q_121 rfl dX4_insert_129 ?_
        refine cs_vir hF (c_X3_length l D cy ad S 11 (by decide)) (cwV 0 hts g_X4_42 rfl rfl rfl kk_X3_length ⟨Nat.le_of_ble_eq_true rfl, Nat.le_of_ble_eq_true rfl⟩) (cs_recvR hK hw (by decide)) hw hK hS rfl hl.1 [.int v13] rfl (Nat.le_of_ble_eq_true rfl) dX4_insert_132 (fun r_12 H locs hq hw hS => ?_)
        replace hE := cs_letE hq hE
        clear hq
        refine lv_icmp_ge (tgt := 155) hx hb dX4_insert_135 (by decide) (fun c_13 => ?_) (fun c_13 => ?_)
        · replace hE := cs_T c_13 hE
          subst hE
          exact hk _ _ _ hw hS (lv_sub hl [0, 1, 2, 3, 4, 5, 6, 7, 8, 9, 10, 11, 12] rfl)
        · replace hE := cs_F c_13 hE
          refine lv_aload_n hx hb dX4_insert_138 rfl (lv_at hl 5 rfl) ?_
          refine cs_get (C := RX4) (T := TX4) (N := 8) hF in_X4 hw hK 4 rfl rfl 2 (by decide) q_121 rfl dX4_insert_139 ?_
          refine lv_iload hx hb dX4_insert_142 (lv_at hl 0 rfl) ?_
          refine lv_iload hx hb dX4_insert_144 (lv_at hl 2 rfl) ?_
          refine cs_vv hF (c_X3_raise l D cy ad S 11 v13 (a5 - a4) (by decide) (by decide)) (cwV 2 hts g_X4_94 rfl rfl rfl kk_X3_raise ⟨Nat.le_of_ble_eq_true rfl, Nat.le_of_ble_eq_true rfl⟩) (cs_recvR hK hw (by decide)) hw hK hS rfl hl.1 [] rfl (Nat.le_of_ble_eq_true rfl) dX4_insert_146 (fun S_14 H locs hq hw hS => ?_)
          replace hE := cs_letE hq hE
          clear hq
          refine lv_iinc (v := v13 + 1) (lv' := [(13, .int (v13 + 1)), (11, .long T_9.1), (10, .int (a5 - a4)), (9, .int r_2), (8, .int (r_1 + a2)), (0, .ref (ad 4)), (1, .int a1), (2, .int a2), (3, .ref (ad (6 + 2 * j3))), (4, .int a4), (5, .int a5), (6, .int a6), (7, .int a7)]) hx hb dX4_insert_149 hl (k := 0) rfl rfl (by decide) rfl (fun ls hl => ?_)
          refine lv_goto (tgt := 126) hx hb dX4_insert_152 (by decide) ?_
          exact ih (v13 + 1) S_14 _ _ hw hS _ (lv_sub hl [0, 1, 2, 3, 4, 5, 6, 7, 8, 9, 10, 11, 12] rfl) (cs_up hm.1 c_13) hE
    exact lp cs_N ((r_1 + a2) + 1) S_11 _ _ hw hS _ (lv_sub hl [0, 1, 2, 3, 4, 5, 6, 7, 8, 9, 10, 11, 12] rfl) (cs_up0 ((r_1 + a2) + 1)) hq.symm
  have lp : ∀ (n : Nat) (v11 : Int64) (v13 : Int32) (S : cs_St) (H : Heap) (locs : List Loc), cs_w D cy ad S H → va_S (cs_A ad) s.heap H locs → ∀ (ls : Array Slot), lv_has ls 15 [(13, .int v13), (11, .long v11), (10, .int (a5 - a4)), (9, .int r_2), (8, .int (r_1 + a2)), (0, .ref (ad 4)), (1, .int a1), (2, .int a2), (3, .ref (ad (6 + 2 * j3))), (4, .int a4), (5, .int a5), (6, .int a6), (7, .int a7)] → (2147483647 - v13.toInt < (n : Int) ∧ 0 < n) → m_X4_insert_L41 j3 (a5 - a4) r_2 (r_1 + a2) a1 a2 a4 a5 a6 a7 n v11 v13 S = T_9 → W p l e (cs_rm 3 103) s m ([.ref (ad 4), .int a1, .int a2, .ref (ad (6 + 2 * j3)), .int a4, .int a5, .int a6, .int a7]).toArray below meth c H locs 0 0 (MQ below (cs_Qv D cy ad (fun S1 => S1 = Res)) ([.ref (ad 4), .int a1, .int a2, .ref (ad (6 + 2 * j3)), .int a4, .int a5, .int a6, .int a7]).toArray s 0 0 (cs_A ad)) (F0 m 41 ls []) := by
    intro n
    induction n with
    | zero => intro v11 v13 S H locs hw hS ls hl hm; exact absurd hm.2 (Nat.lt_irrefl 0)
    | succ n ih =>
      intro v11 v13 S H locs hw hS ls hl hm hE
      replace hE := m_X4_insert_L41_s.symm.trans hE
      refine lv_iload hx hb dX4_insert_41 (lv_at hl 0 rfl) ?_
      refine lv_iload hx hb dX4_insert_43 (lv_at hl 2 rfl) ?_
      refine lv_icmp_ge (tgt := 100) hx hb dX4_insert_45 (by decide) (fun c_4 => ?_) (fun c_4 => ?_)
      · replace hE := cs_T c_4 hE
        subst hE
        exact hk _ _ _ hw hS (lv_sub hl [0, 1, 2, 3, 4, 5, 6, 7, 8, 9, 10, 11, 12] rfl)
      · replace hE := cs_F c_4 hE
        refine lv_aload_n hx hb dX4_insert_48 rfl (lv_at hl 8 rfl) ?_
        refine lv_iload hx hb dX4_insert_49 (lv_at hl 9 rfl) ?_
        refine lv_iload hx hb dX4_insert_51 (lv_at hl 0 rfl) ?_
        refine lv_iadd hx hb dX4_insert_53 ?_
        refine cs_vir hF (c_X3_at l D cy ad S j3 (a4 + v13) hj3) (cwV 1 hts g_X4_46 rfl rfl rfl kk_X3_at ⟨Nat.le_of_ble_eq_true rfl, Nat.le_of_ble_eq_true rfl⟩) (cs_recvR hK hw hj3) hw hK hS rfl hl.1 [] rfl (Nat.le_of_ble_eq_true rfl) dX4_insert_54 (fun r_5 H locs hq hw hS => ?_)
        replace hE := cs_letE hq hE
        clear hq
        refine lv_istore (lv' := [(14, .int r_5), (13, .int v13), (11, .long v11), (10, .int (a5 - a4)), (9, .int r_2), (8, .int (r_1 + a2)), (0, .ref (ad 4)), (1, .int a1), (2, .int a2), (3, .ref (ad (6 + 2 * j3))), (4, .int a4), (5, .int a5), (6, .int a6), (7, .int a7)]) hx hb dX4_insert_57 hl (by decide) rfl (fun ls hl => ?_)
        refine lv_aload_n hx hb dX4_insert_59 rfl (lv_at hl 6 rfl) ?_
        refine cs_get (C := RX4) (T := TX4) (N := 8) hF in_X4 hw hK 4 rfl rfl 1 (by decide) q_120 rfl dX4_insert_60 ?_
        refine lv_iload hx hb dX4_insert_63 (lv_at hl 4 rfl) ?_
        refine lv_iload hx hb dX4_insert_65 (lv_at hl 1 rfl) ?_
        refine lv_iadd hx hb dX4_insert_67 ?_
        refine lv_iload hx hb dX4_insert_68 (lv_at hl 0 rfl) ?_
        refine cs_vv hF (c_X3_write l D cy ad S 10 (r_2 + v13) r_5 (by decide) (fun h => absurd h (by decide))) (cwV 2 hts g_X4_84 rfl rfl rfl kk_X3_write ⟨Nat.le_of_ble_eq_true rfl, Nat.le_of_ble_eq_true rfl⟩) (cs_recvR hK hw (by decide)) hw hK hS rfl hl.1 [] rfl (Nat.le_of_ble_eq_true rfl) dX4_insert_70 (fun S_6 H locs hq hw hS => ?_)
        replace hE := cs_letE hq hE
        clear hq
        refine lv_lload hx hb dX4_insert_73 (lv_at hl 2 rfl) ?_
        refine lv_aload_n hx hb dX4_insert_75 rfl (lv_at hl 6 rfl) ?_
        refine cs_get (C := RX4) (T := TX4) (N := 8) hF in_X4 hw hK 4 rfl rfl 0 (by decide) q_127 rfl dX4_insert_76 ?_
        refine lv_iload hx hb dX4_insert_79 (lv_at hl 0 rfl) ?_
        refine cs_vir hF (c_X1_key l D cy ad S_6 r_5) (cwV 1 hts g_X4_56 rfl rfl rfl kk_X1_key ⟨Nat.le_of_ble_eq_true rfl, Nat.le_of_ble_eq_true rfl⟩) (cs_recv hK hw (ci := 1) 2 rfl rfl) hw hK hS rfl hl.1 [.long v11] rfl (Nat.le_of_ble_eq_true rfl) dX4_insert_81 (fun r_7 H locs hq hw hS => ?_)
        replace hE := cs_letE hq hE
        clear hq
        refine lv_iload hx hb dX4_insert_84 (lv_at hl 12 rfl) ?_
        refine lv_iload hx hb dX4_insert_86 (lv_at hl 13 rfl) ?_
        refine cs_slr hF (c_X4_bitsOf l D cy ad S_6 r_7 a6 a7 (g7)) (va_cwS 3 hts g_X4_87 rfl rfl rfl kk_X4_bitsOf ⟨Nat.le_of_ble_eq_true rfl, Nat.le_of_ble_eq_true rfl⟩) hw hK hS rfl hl.1 [.long v11] rfl (Nat.le_of_ble_eq_true rfl) dX4_insert_88 (fun r_8 H locs hq hw hS => ?_)
        replace hE := cs_letE hq hE
        clear hq
        refine lv_lor hx hb dX4_insert_91 ?_
        refine lv_lstore (lv' := [(11, .long (v11 ||| r_8)), (14, .int r_5), (13, .int v13), (10, .int (a5 - a4)), (9, .int r_2), (8, .int (r_1 + a2)), (0, .ref (ad 4)), (1, .int a1), (2, .int a2), (3, .ref (ad (6 + 2 * j3))), (4, .int a4), (5, .int a5), (6, .int a6), (7, .int a7)]) hx hb dX4_insert_92 hl (by decide) rfl (fun ls hl => ?_)
        refine lv_iinc (v := v13 + 1) (lv' := [(13, .int (v13 + 1)), (11, .long (v11 ||| r_8)), (14, .int r_5), (10, .int (a5 - a4)), (9, .int r_2), (8, .int (r_1 + a2)), (0, .ref (ad 4)), (1, .int a1), (2, .int a2), (3, .ref (ad (6 + 2 * j3))), (4, .int a4), (5, .int a5), (6, .int a6), (7, .int a7)]) hx hb dX4_insert_94 hl (k := 2) rfl rfl (by decide) rfl (fun ls hl => ?_)
        refine lv_goto (tgt := 41) hx hb dX4_insert_97 (by decide) ?_
        exact ih (v11 ||| r_8) (v13 + 1) S_6 _ _ hw hS _ (lv_sub hl [0, 1, 3, 4, 5, 6, 7, 8, 9, 10, 11, 12, 13] rfl) (cs_up hm.1 c_4) hE
  exact lp cs_N 0 0 S_3 _ _ hw hS _ (lv_sub hl [0, 1, 2, 3, 4, 5, 6, 7, 8, 9, 10, 11, 12] rfl) (cs_up0 0) hq.symm
theorem kk_X4_insert : yX4_insert.cls = RX4 ∧ yX4_insert.cls ≠ "java/lang/invoke/MethodHandle" ∧ yX4_insert.cls ≠ "java/lang/invoke/VarHandle" ∧ (parseMethodDescriptor yX4_insert.desc).map (fun d => d.parameters.length) = some 7 := by decide +kernel
theorem g_X4_97 : GoodIn cs_WS (wsV RX4 97 RX3 yX3_cut (cs_ws yX3_cut cX3_cut 3 none)) := cs_goodV q_182 q_30 q_31 q_10 q_23
def m_X4_cut_L105 (u8 : Int32) (u7 : Int32) (u6 : Int32) (u5 : Int32) (u4 : Int32) (u1 : Int32) (u2 : Int32) (u3 : Int32) : Nat → Int32 → cs_St → Int32 × cs_St
  | 0, _, S => (0, S)
  | n + 1, v9, S => cs_let (m_X3_length S 11) (fun r_10 => (if r_10 ≤ v9 then (v9, S) else cs_let (m_X3_raise S 11 v9 (u7 - u8)) (fun S_12 => m_X4_cut_L105 u8 u7 u6 u5 u4 u1 u2 u3 n (v9 + 1) S_12)))
theorem m_X4_cut_L105_s {u8 : Int32} {u7 : Int32} {u6 : Int32} {u5 : Int32} {u4 : Int32} {u1 : Int32} {u2 : Int32} {u3 : Int32} {n : Nat} {v9 : Int32} {S : cs_St} : m_X4_cut_L105 u8 u7 u6 u5 u4 u1 u2 u3 (n + 1) v9 S = cs_let (m_X3_length S 11) (fun r_10 => (if r_10 ≤ v9 then (v9, S) else cs_let (m_X3_raise S 11 v9 (u7 - u8)) (fun S_12 => m_X4_cut_L105 u8 u7 u6 u5 u4 u1 u2 u3 n (v9 + 1) S_12))) := rfl
def m_X4_cut (S : cs_St) (a1 : Int32) (a2 : Int32) (a3 : Int32) : cs_St := cs_let (m_X4_first S a1) (fun r_1 => cs_let (m_X4_begin S (r_1 + a2)) (fun r_2 => cs_let (m_X4_begin S (r_1 + a3)) (fun r_3 => cs_let (m_X3_cut S 10 r_2 r_3) (fun S_4 => cs_let (m_X3_cut S_4 11 (r_1 + a2) (r_1 + a3)) (fun S_5 => cs_let (m_X3_cut S_5 12 (r_1 + a2) (r_1 + a3)) (fun S_6 => cs_let (m_X3_cut S_6 13 (r_1 + a2) (r_1 + a3)) (fun S_7 => cs_let (m_X3_cut S_7 14 (r_1 + a2) (r_1 + a3)) (fun S_8 => cs_let (m_X3_cut S_8 15 (r_1 + a2) (r_1 + a3)) (fun S_9 => cs_let (m_X4_cut_L105 r_3 r_2 (r_1 + a3) (r_1 + a2) r_1 a1 a2 a3 cs_N (r_1 + a2) S_9) (fun T_13 => cs_let (m_X3_raise T_13.2 16 a1 (a2 - a3)) (fun S_14 => S_14)))))))))))
set_option maxHeartbeats 4000000 in
set_option maxRecDepth 100000 in
theorem c_X4_cut (l : Launch) (D : va_G) (cy : ClassId) (ad : Nat → Nat) (S : cs_St) (a1 : Int32) (a2 : Int32) (a3 : Int32) : Met l yX4_cut (cs_ws yX4_cut cX4_cut 10 none) (cs_rm 2 82) (cs_Pc D cy ad [.ref (ad 4), .int a1, .int a2, .int a3] S) (cs_Qv D cy ad (fun S1 => S1 = m_X4_cut S a1 a2 a3)) 0 0 (cs_A ad) := by
  refine cs_of RX4 (by decide) rfl (Nat.le_of_ble_eq_true rfl) ?_
  intro p e s m below meth c hF hr hlk hw hK ls hl
  obtain ⟨hx, hb, hml, hown, hts⟩ := id hF
  have hS : va_S (cs_A ad) s.heap s.heap [] := va_S.rf
  have hl : lv_has ls 10 [(0, .ref (ad 4)), (1, .int a1), (2, .int a2), (3, .int a3)] := hl
  generalize hRes : m_X4_cut S a1 a2 a3 = Res
  unfold m_X4_cut at hRes
  refine lv_aload_n hx hb dX4_cut_0 rfl (lv_at hl 0 rfl) ?_
  refine lv_iload_n hx hb dX4_cut_1 rfl (lv_at hl 1 rfl) ?_
  refine cs_vir hF (c_X4_first l D cy ad S a1) (cwV 1 hts g_X4_53 rfl rfl rfl kk_X4_first ⟨Nat.le_of_ble_eq_true rfl, Nat.le_of_ble_eq_true rfl⟩) (cs_recv hK hw (ci := 4) 4 rfl rfl) hw hK hS rfl hl.1 [] rfl (Nat.le_of_ble_eq_true rfl) dX4_cut_2 (fun r_1 H locs hq hw hS => ?_)
  replace hRes := cs_letE hq hRes
  clear hq
  refine lv_istore (lv' := [(4, .int r_1), (0, .ref (ad 4)), (1, .int a1), (2, .int a2), (3, .int a3)]) hx hb dX4_cut_5 hl (by decide) rfl (fun ls hl => ?_)
  refine lv_iload hx hb dX4_cut_7 (lv_at hl 0 rfl) ?_
  refine lv_iload_n hx hb dX4_cut_9 rfl (lv_at hl 3 rfl) ?_
  refine lv_iadd hx hb dX4_cut_10 ?_
  refine lv_istore (lv' := [(5, .int (r_1 + a2)), (4, .int r_1), (0, .ref (ad 4)), (1, .int a1), (2, .int a2), (3, .int a3)]) hx hb dX4_cut_11 hl (by decide) rfl (fun ls hl => ?_)
  refine lv_iload hx hb dX4_cut_13 (lv_at hl 1 rfl) ?_
  refine lv_iload_n hx hb dX4_cut_15 rfl (lv_at hl 5 rfl) ?_
  refine lv_iadd hx hb dX4_cut_16 ?_
  refine lv_istore (lv' := [(6, .int (r_1 + a3)), (5, .int (r_1 + a2)), (4, .int r_1), (0, .ref (ad 4)), (1, .int a1), (2, .int a2), (3, .int a3)]) hx hb dX4_cut_17 hl (by decide) rfl (fun ls hl => ?_)
  refine lv_aload_n hx hb dX4_cut_19 rfl (lv_at hl 3 rfl) ?_
  refine lv_iload hx hb dX4_cut_20 (lv_at hl 1 rfl) ?_
  refine cs_vir hF (c_X4_begin l D cy ad S (r_1 + a2)) (cwV 1 hts g_X4_50 rfl rfl rfl kk_X4_begin ⟨Nat.le_of_ble_eq_true rfl, Nat.le_of_ble_eq_true rfl⟩) (cs_recv hK hw (ci := 4) 4 rfl rfl) hw hK hS rfl hl.1 [] rfl (Nat.le_of_ble_eq_true rfl) dX4_cut_22 (fun r_2 H locs hq hw hS => ?_)
  replace hRes := cs_letE hq hRes
  clear hq
  refine lv_istore (lv' := [(7, .int r_2), (6, .int (r_1 + a3)), (5, .int (r_1 + a2)), (4, .int r_1), (0, .ref (ad 4)), (1, .int a1), (2, .int a2), (3, .int a3)]) hx hb dX4_cut_25 hl (by decide) rfl (fun ls hl => ?_)
  refine lv_aload_n hx hb dX4_cut_27 rfl (lv_at hl 4 rfl) ?_
  refine lv_iload hx hb dX4_cut_28 (lv_at hl 1 rfl) ?_
  refine cs_vir hF (c_X4_begin l D cy ad S (r_1 + a3)) (cwV 1 hts g_X4_50 rfl rfl rfl kk_X4_begin ⟨Nat.le_of_ble_eq_true rfl, Nat.le_of_ble_eq_true rfl⟩) (cs_recv hK hw (ci := 4) 4 rfl rfl) hw hK hS rfl hl.1 [] rfl (Nat.le_of_ble_eq_true rfl) dX4_cut_30 (fun r_3 H locs hq hw hS => ?_)
  replace hRes := cs_letE hq hRes
  clear hq
  refine lv_istore (lv' := [(8, .int r_3), (7, .int r_2), (6, .int (r_1 + a3)), (5, .int (r_1 + a2)), (4, .int r_1), (0, .ref (ad 4)), (1, .int a1), (2, .int a2), (3, .int a3)]) hx hb dX4_cut_33 hl (by decide) rfl (fun ls hl => ?_)
  refine lv_aload_n hx hb dX4_cut_35 rfl (lv_at hl 5 rfl) ?_
  refine cs_get (C := RX4) (T := TX4) (N := 8) hF in_X4 hw hK 4 rfl rfl 1 (by decide) q_120 rfl dX4_cut_36 ?_
  refine lv_iload hx hb dX4_cut_39 (lv_at hl 1 rfl) ?_
  refine lv_iload hx hb dX4_cut_41 (lv_at hl 0 rfl) ?_
  refine cs_vv hF (c_X3_cut l D cy ad S 10 r_2 r_3 (by decide)) (cwV 2 hts g_X4_97 rfl rfl rfl kk_X3_cut ⟨Nat.le_of_ble_eq_true rfl, Nat.le_of_ble_eq_true rfl⟩) (cs_recvR hK hw (by decide)) hw hK hS rfl hl.1 [] rfl (Nat.le_of_ble_eq_true rfl) dX4_cut_43 (fun S_4 H locs hq hw hS => ?_)
  replace hRes := cs_letE hq hRes
  clear hq
  refine lv_aload_n hx hb dX4_cut_46 rfl (lv_at hl 5 rfl) ?_
  refine cs_get (C := RX4) (T := TX4) (N := 8) hF in_X4 hw hK 4 rfl rfl 2 (by decide) q_121 rfl dX4_cut_47 ?_
  refine lv_iload hx hb dX4_cut_50 (lv_at hl 3 rfl) ?_
  refine lv_iload hx hb dX4_cut_52 (lv_at hl 2 rfl) ?_
  refine cs_vv hF (c_X3_cut l D cy ad S_4 11 (r_1 + a2) (r_1 + a3) (by decide)) (cwV 2 hts g_X4_97 rfl rfl rfl kk_X3_cut ⟨Nat.le_of_ble_eq_true rfl, Nat.le_of_ble_eq_true rfl⟩) (cs_recvR hK hw (by decide)) hw hK hS rfl hl.1 [] rfl (Nat.le_of_ble_eq_true rfl) dX4_cut_54 (fun S_5 H locs hq hw hS => ?_)
  replace hRes := cs_letE hq hRes
  clear hq
  refine lv_aload_n hx hb dX4_cut_57 rfl (lv_at hl 5 rfl) ?_
  refine cs_get (C := RX4) (T := TX4) (N := 8) hF in_X4 hw hK 4 rfl rfl 3 (by decide) q_122 rfl dX4_cut_58 ?_
  refine lv_iload hx hb dX4_cut_61 (lv_at hl 3 rfl) ?_
  refine lv_iload hx hb dX4_cut_63 (lv_at hl 2 rfl) ?_
  refine cs_vv hF (c_X3_cut l D cy ad S_5 12 (r_1 + a2) (r_1 + a3) (by decide)) (cwV 2 hts g_X4_97 rfl rfl rfl kk_X3_cut ⟨Nat.le_of_ble_eq_true rfl, Nat.le_of_ble_eq_true rfl⟩) (cs_recvR hK hw (by decide)) hw hK hS rfl hl.1 [] rfl (Nat.le_of_ble_eq_true rfl) dX4_cut_65 (fun S_6 H locs hq hw hS => ?_)
  replace hRes := cs_letE hq hRes
  clear hq
  refine lv_aload_n hx hb dX4_cut_68 rfl (lv_at hl 5 rfl) ?_
  refine cs_get (C := RX4) (T := TX4) (N := 8) hF in_X4 hw hK 4 rfl rfl 4 (by decide) q_123 rfl dX4_cut_69 ?_
  refine lv_iload hx hb dX4_cut_72 (lv_at hl 3 rfl) ?_
  refine lv_iload hx hb dX4_cut_74 (lv_at hl 2 rfl) ?_
  refine cs_vv hF (c_X3_cut l D cy ad S_6 13 (r_1 + a2) (r_1 + a3) (by decide)) (cwV 2 hts g_X4_97 rfl rfl rfl kk_X3_cut ⟨Nat.le_of_ble_eq_true rfl, Nat.le_of_ble_eq_true rfl⟩) (cs_recvR hK hw (by decide)) hw hK hS rfl hl.1 [] rfl (Nat.le_of_ble_eq_true rfl) dX4_cut_76 (fun S_7 H locs hq hw hS => ?_)
  replace hRes := cs_letE hq hRes
  clear hq
  refine lv_aload_n hx hb dX4_cut_79 rfl (lv_at hl 5 rfl) ?_
  refine cs_get (C := RX4) (T := TX4) (N := 8) hF in_X4 hw hK 4 rfl rfl 5 (by decide) q_124 rfl dX4_cut_80 ?_
  refine lv_iload hx hb dX4_cut_83 (lv_at hl 3 rfl) ?_
  refine lv_iload hx hb dX4_cut_85 (lv_at hl 2 rfl) ?_
  refine cs_vv hF (c_X3_cut l D cy ad S_7 14 (r_1 + a2) (r_1 + a3) (by decide)) (cwV 2 hts g_X4_97 rfl rfl rfl kk_X3_cut ⟨Nat.le_of_ble_eq_true rfl, Nat.le_of_ble_eq_true rfl⟩) (cs_recvR hK hw (by decide)) hw hK hS rfl hl.1 [] rfl (Nat.le_of_ble_eq_true rfl) dX4_cut_87 (fun S_8 H locs hq hw hS => ?_)
  replace hRes := cs_letE hq hRes
  clear hq
  refine lv_aload_n hx hb dX4_cut_90 rfl (lv_at hl 5 rfl) ?_
  refine cs_get (C := RX4) (T := TX4) (N := 8) hF in_X4 hw hK 4 rfl rfl 6 (by decide) q_125 rfl dX4_cut_91 ?_
  refine lv_iload hx hb dX4_cut_94 (lv_at hl 3 rfl) ?_
  refine lv_iload hx hb dX4_cut_96 (lv_at hl 2 rfl) ?_
  refine cs_vv hF (c_X3_cut l D cy ad S_8 15 (r_1 + a2) (r_1 + a3) (by decide)) (cwV 2 hts g_X4_97 rfl rfl rfl kk_X3_cut ⟨Nat.le_of_ble_eq_true rfl, Nat.le_of_ble_eq_true rfl⟩) (cs_recvR hK hw (by decide)) hw hK hS rfl hl.1 [] rfl (Nat.le_of_ble_eq_true rfl) dX4_cut_98 (fun S_9 H locs hq hw hS => ?_)
  replace hRes := cs_letE hq hRes
  clear hq
  refine lv_iload hx hb dX4_cut_101 (lv_at hl 3 rfl) ?_
  refine lv_istore (lv' := [(9, .int (r_1 + a2)), (8, .int r_3), (7, .int r_2), (6, .int (r_1 + a3)), (5, .int (r_1 + a2)), (4, .int r_1), (0, .ref (ad 4)), (1, .int a1), (2, .int a2), (3, .int a3)]) hx hb dX4_cut_103 hl (by decide) rfl (fun ls hl => ?_)
  -- the loop at 105
  obtain ⟨T_13, hq⟩ : ∃ z, z = m_X4_cut_L105 r_3 r_2 (r_1 + a3) (r_1 + a2) r_1 a1 a2 a3 cs_N (r_1 + a2) S_9 := ⟨_, rfl⟩
  replace hRes := cs_letE hq hRes
  have hk : ∀ (H : Heap) (locs : List Loc) (ls : Array Slot), cs_w D cy ad T_13.2 H → va_S (cs_A ad) s.heap H locs → lv_has ls 10 [(9, .int T_13.1), (8, .int r_3), (7, .int r_2), (6, .int (r_1 + a3)), (5, .int (r_1 + a2)), (4, .int r_1), (0, .ref (ad 4)), (1, .int a1), (2, .int a2), (3, .int a3)] → W p l e (cs_rm 2 82) s m ([.ref (ad 4), .int a1, .int a2, .int a3]).toArray below meth c H locs 0 0 (MQ below (cs_Qv D cy ad (fun S1 => S1 = Res)) ([.ref (ad 4), .int a1, .int a2, .int a3]).toArray s 0 0 (cs_A ad)) (F0 m 137 ls []) := by
    intro H locs ls hw hS hl
    refine lv_aload_n hx hb dX4_cut_137 rfl (lv_at hl 6 rfl) ?_
    refine cs_get (C := RX4) (T := TX4) (N := 8) hF in_X4 hw hK 4 rfl rfl 7 (by decide) q_126 rfl dX4_cut_138 ?_
    refine lv_iload_n hx hb dX4_cut_141 rfl (lv_at hl 7 rfl) ?_
    refine lv_iload_n hx hb dX4_cut_142 rfl (lv_at hl 8 rfl) ?_
    refine lv_iload_n hx hb dX4_cut_143 rfl (lv_at hl 9 rfl) ?_
    refine lv_isub hx hb dX4_cut_144 ?_
    refine cs_vv hF (c_X3_raise l D cy ad T_13.2 16 a1 (a2 - a3) (by decide) (by decide)) (cwV 2 hts g_X4_94 rfl rfl rfl kk_X3_raise ⟨Nat.le_of_ble_eq_true rfl, Nat.le_of_ble_eq_true rfl⟩) (cs_recvR hK hw (by decide)) hw hK hS rfl hl.1 [] rfl (Nat.le_of_ble_eq_true rfl) dX4_cut_145 (fun S_14 H locs hq hw hS => ?_)
    replace hRes := cs_letE hq hRes
    clear hq
    exact cs_vret hF hr hlk hw hK hS dX4_cut_148 hRes
  have lp : ∀ (n : Nat) (v9 : Int32) (S : cs_St) (H : Heap) (locs : List Loc), cs_w D cy ad S H → va_S (cs_A ad) s.heap H locs → ∀ (ls : Array Slot), lv_has ls 10 [(9, .int v9), (8, .int r_3), (7, .int r_2), (6, .int (r_1 + a3)), (5, .int (r_1 + a2)), (4, .int r_1), (0, .ref (ad 4)), (1, .int a1), (2, .int a2), (3, .int a3)] → (2147483647 - v9.toInt < (n : Int) ∧ 0 < n) → m_X4_cut_L105 r_3 r_2 (r_1 + a3) (r_1 + a2) r_1 a1 a2 a3 n v9 S = T_13 → W p l e (cs_rm 2 82) s m ([.ref (ad 4), .int a1, .int a2, .int a3]).toArray below meth c H locs 0 0 (MQ below (cs_Qv D cy ad (fun S1 => S1 = Res)) ([.ref (ad 4), .int a1, .int a2, .int a3]).toArray s 0 0 (cs_A ad)) (F0 m 105 ls []) := by
    intro n
    induction n with
    | zero => intro v9 S H locs hw hS ls hl hm; exact absurd hm.2 (Nat.lt_irrefl 0)
    | succ n ih =>
      intro v9 S H locs hw hS ls hl hm hE
      replace hE := m_X4_cut_L105_s.symm.trans hE
      refine lv_iload hx hb dX4_cut_105 (lv_at hl 0 rfl) ?_
      refine lv_aload_n hx hb dX4_cut_107 rfl (lv_at hl 6 rfl) ?_
      refine cs_get (C := RX4) (T := TX4) (N := 8) hF in_X4 hw hK 4 rfl rfl 2 (by decide) q_121 rfl dX4_cut_108 ?_
      refine cs_vir hF (c_X3_length l D cy ad S 11 (by decide)) (cwV 0 hts g_X4_42 rfl rfl rfl kk_X3_length ⟨Nat.le_of_ble_eq_true rfl, Nat.le_of_ble_eq_true rfl⟩) (cs_recvR hK hw (by decide)) hw hK hS rfl hl.1 [.int v9] rfl (Nat.le_of_ble_eq_true rfl) dX4_cut_111 (fun r_10 H locs hq hw hS => ?_)
      replace hE := cs_letE hq hE
      clear hq
      refine lv_icmp_ge (tgt := 137) hx hb dX4_cut_114 (by decide) (fun c_11 => ?_) (fun c_11 => ?_)
      · replace hE := cs_T c_11 hE
        subst hE
        exact hk _ _ _ hw hS (lv_sub hl [0, 1, 2, 3, 4, 5, 6, 7, 8, 9] rfl)
      · replace hE := cs_F c_11 hE
        refine lv_aload_n hx hb dX4_cut_117 rfl (lv_at hl 6 rfl) ?_
        refine cs_get (C := RX4) (T := TX4) (N := 8) hF in_X4 hw hK 4 rfl rfl 2 (by decide) q_121 rfl dX4_cut_118 ?_
        refine lv_iload hx hb dX4_cut_121 (lv_at hl 0 rfl) ?_
        refine lv_iload hx hb dX4_cut_123 (lv_at hl 2 rfl) ?_
        refine lv_iload hx hb dX4_cut_125 (lv_at hl 1 rfl) ?_
        refine lv_isub hx hb dX4_cut_127 ?_
        refine cs_vv hF (c_X3_raise l D cy ad S 11 v9 (r_2 - r_3) (by decide) (by decide)) (cwV 2 hts g_X4_94 rfl rfl rfl kk_X3_raise ⟨Nat.le_of_ble_eq_true rfl, Nat.le_of_ble_eq_true rfl⟩) (cs_recvR hK hw (by decide)) hw hK hS rfl hl.1 [] rfl (Nat.le_of_ble_eq_true rfl) dX4_cut_128 (fun S_12 H locs hq hw hS => ?_)
        replace hE := cs_letE hq hE
        clear hq
        refine lv_iinc (v := v9 + 1) (lv' := [(9, .int (v9 + 1)), (8, .int r_3), (7, .int r_2), (6, .int (r_1 + a3)), (5, .int (r_1 + a2)), (4, .int r_1), (0, .ref (ad 4)), (1, .int a1), (2, .int a2), (3, .int a3)]) hx hb dX4_cut_131 hl (k := 0) rfl rfl (by decide) rfl (fun ls hl => ?_)
        refine lv_goto (tgt := 105) hx hb dX4_cut_134 (by decide) ?_
        exact ih (v9 + 1) S_12 _ _ hw hS _ (lv_sub hl [0, 1, 2, 3, 4, 5, 6, 7, 8, 9] rfl) (cs_up hm.1 c_11) hE
  exact lp cs_N (r_1 + a2) S_9 _ _ hw hS _ (lv_sub hl [0, 1, 2, 3, 4, 5, 6, 7, 8, 9] rfl) (cs_up0 (r_1 + a2)) hq.symm
theorem kk_X4_cut : yX4_cut.cls = RX4 ∧ yX4_cut.cls ≠ "java/lang/invoke/MethodHandle" ∧ yX4_cut.cls ≠ "java/lang/invoke/VarHandle" ∧ (parseMethodDescriptor yX4_cut.desc).map (fun d => d.parameters.length) = some 3 := by decide +kernel
end
