-- ===== PART A: goes FIRST, ahead of the names: the tables' words, and 'selects' of the private methods out of them =====
/-- a private method of a class that the tables say can be made, by its rows of tables_1 -/
def lw_okq (q : MethodName × Nat) : Prop := (q.1.cls ≠ "java/lang/invoke/MethodHandle" ∧ q.1.cls ≠ "java/lang/invoke/VarHandle") ∧ Cond.instantiable q.1.cls q.2 ∈ tables_1 ∧ Cond.privateMethod q.1 ∈ tables_1 ∧ Cond.instanceMethod q.1 ∈ tables_1
theorem lw_p0 : lw_okq (⟨"IceYard", "refusalOfPush", "(II)I"⟩, 13) := ⟨⟨by decide +kernel, by decide +kernel⟩, List.mem_of_getElem? (i := 13) (by decide +kernel), List.mem_of_getElem? (i := 302) (by decide +kernel), List.mem_of_getElem? (i := 303) (by decide +kernel)⟩
theorem lw_p1 : lw_okq (⟨"IceYard$Slider", "load", "(J)V"⟩, 10) := ⟨⟨by decide +kernel, by decide +kernel⟩, List.mem_of_getElem? (i := 78) (by decide +kernel), List.mem_of_getElem? (i := 310) (by decide +kernel), List.mem_of_getElem? (i := 311) (by decide +kernel)⟩
theorem lw_p2 : lw_okq (⟨"IceYard$Slider", "slideOne", "(II)I"⟩, 10) := ⟨⟨by decide +kernel, by decide +kernel⟩, List.mem_of_getElem? (i := 78) (by decide +kernel), List.mem_of_getElem? (i := 323) (by decide +kernel), List.mem_of_getElem? (i := 324) (by decide +kernel)⟩
theorem lw_p3 : lw_okq (⟨"IceYard$Slider", "blockIn", "(I)I"⟩, 10) := ⟨⟨by decide +kernel, by decide +kernel⟩, List.mem_of_getElem? (i := 78) (by decide +kernel), List.mem_of_getElem? (i := 336) (by decide +kernel), List.mem_of_getElem? (i := 337) (by decide +kernel)⟩
theorem lw_p4 : lw_okq (⟨"IceYard$Slider", "leave", "(II)V"⟩, 10) := ⟨⟨by decide +kernel, by decide +kernel⟩, List.mem_of_getElem? (i := 78) (by decide +kernel), List.mem_of_getElem? (i := 340) (by decide +kernel), List.mem_of_getElem? (i := 341) (by decide +kernel)⟩
theorem lw_p5 : lw_okq (⟨"IceYard$Search", "note", "(JII)Z"⟩, 9) := ⟨⟨by decide +kernel, by decide +kernel⟩, List.mem_of_getElem? (i := 127) (by decide +kernel), List.mem_of_getElem? (i := 362) (by decide +kernel), List.mem_of_getElem? (i := 363) (by decide +kernel)⟩
theorem lw_p6 : lw_okq (⟨"IceYard$Search", "slotOf", "(J)I"⟩, 9) := ⟨⟨by decide +kernel, by decide +kernel⟩, List.mem_of_getElem? (i := 127) (by decide +kernel), List.mem_of_getElem? (i := 366) (by decide +kernel), List.mem_of_getElem? (i := 367) (by decide +kernel)⟩
theorem lw_p7 : lw_okq (⟨"IceYard$Search", "goOnFrom", "(II)I"⟩, 9) := ⟨⟨by decide +kernel, by decide +kernel⟩, List.mem_of_getElem? (i := 127) (by decide +kernel), List.mem_of_getElem? (i := 371) (by decide +kernel), List.mem_of_getElem? (i := 372) (by decide +kernel)⟩
theorem lw_p8 : lw_okq (⟨"IceYard$Search", "writeRow", "(II)V"⟩, 9) := ⟨⟨by decide +kernel, by decide +kernel⟩, List.mem_of_getElem? (i := 127) (by decide +kernel), List.mem_of_getElem? (i := 379) (by decide +kernel), List.mem_of_getElem? (i := 380) (by decide +kernel)⟩
theorem lw_p9 : lw_okq (⟨"IceYard$Game", "winningPush", "(JII)I"⟩, 3) := ⟨⟨by decide +kernel, by decide +kernel⟩, List.mem_of_getElem? (i := 162) (by decide +kernel), List.mem_of_getElem? (i := 395) (by decide +kernel), List.mem_of_getElem? (i := 396) (by decide +kernel)⟩
theorem lw_p10 : lw_okq (⟨"IceYard$Game", "winsWhateverComes", "(JII)Z"⟩, 3) := ⟨⟨by decide +kernel, by decide +kernel⟩, List.mem_of_getElem? (i := 162) (by decide +kernel), List.mem_of_getElem? (i := 400) (by decide +kernel), List.mem_of_getElem? (i := 401) (by decide +kernel)⟩
theorem lw_p11 : lw_okq (⟨"IceYard$RowCount", "walk", "(JIIJ)V"⟩, 6) := ⟨⟨by decide +kernel, by decide +kernel⟩, List.mem_of_getElem? (i := 179) (by decide +kernel), List.mem_of_getElem? (i := 424) (by decide +kernel), List.mem_of_getElem? (i := 425) (by decide +kernel)⟩
theorem lw_p12 : lw_okq (⟨"IceYard$RowCount", "countRow", "(I)V"⟩, 6) := ⟨⟨by decide +kernel, by decide +kernel⟩, List.mem_of_getElem? (i := 179) (by decide +kernel), List.mem_of_getElem? (i := 431) (by decide +kernel), List.mem_of_getElem? (i := 432) (by decide +kernel)⟩
theorem lw_p13 : lw_okq (⟨"IceYard$SandPlan", "bringsHome", "(JIII)Z"⟩, 3) := ⟨⟨by decide +kernel, by decide +kernel⟩, List.mem_of_getElem? (i := 204) (by decide +kernel), List.mem_of_getElem? (i := 448) (by decide +kernel), List.mem_of_getElem? (i := 449) (by decide +kernel)⟩
theorem lw_p14 : lw_okq (⟨"IceYard$SandPlan", "freeIce", "(J)J"⟩, 3) := ⟨⟨by decide +kernel, by decide +kernel⟩, List.mem_of_getElem? (i := 204) (by decide +kernel), List.mem_of_getElem? (i := 453) (by decide +kernel), List.mem_of_getElem? (i := 454) (by decide +kernel)⟩
theorem lw_p15 : lw_okq (⟨"IceYard", "sheetAt", "(I)LIceYard$Sheet;"⟩, 13) := ⟨⟨by decide +kernel, by decide +kernel⟩, List.mem_of_getElem? (i := 13) (by decide +kernel), List.mem_of_getElem? (i := 464) (by decide +kernel), List.mem_of_getElem? (i := 465) (by decide +kernel)⟩
def lw_privs_1 : List (MethodName × Nat) := [(⟨"IceYard", "refusalOfPush", "(II)I"⟩, 13), (⟨"IceYard$Slider", "load", "(J)V"⟩, 10), (⟨"IceYard$Slider", "slideOne", "(II)I"⟩, 10), (⟨"IceYard$Slider", "blockIn", "(I)I"⟩, 10), (⟨"IceYard$Slider", "leave", "(II)V"⟩, 10), (⟨"IceYard$Search", "note", "(JII)Z"⟩, 9), (⟨"IceYard$Search", "slotOf", "(J)I"⟩, 9), (⟨"IceYard$Search", "goOnFrom", "(II)I"⟩, 9), (⟨"IceYard$Search", "writeRow", "(II)V"⟩, 9), (⟨"IceYard$Game", "winningPush", "(JII)I"⟩, 3), (⟨"IceYard$Game", "winsWhateverComes", "(JII)Z"⟩, 3), (⟨"IceYard$RowCount", "walk", "(JIIJ)V"⟩, 6), (⟨"IceYard$RowCount", "countRow", "(I)V"⟩, 6), (⟨"IceYard$SandPlan", "bringsHome", "(JIII)Z"⟩, 3), (⟨"IceYard$SandPlan", "freeIce", "(J)J"⟩, 3), (⟨"IceYard", "sheetAt", "(I)LIceYard$Sheet;"⟩, 13)]
theorem lw_r1 : ∀ q ∈ lw_privs_1, lw_okq q := List.forall_mem_cons.mpr ⟨lw_p0, List.forall_mem_cons.mpr ⟨lw_p1, List.forall_mem_cons.mpr ⟨lw_p2, List.forall_mem_cons.mpr ⟨lw_p3, List.forall_mem_cons.mpr ⟨lw_p4, List.forall_mem_cons.mpr ⟨lw_p5, List.forall_mem_cons.mpr ⟨lw_p6, List.forall_mem_cons.mpr ⟨lw_p7, List.forall_mem_cons.mpr ⟨lw_p8, List.forall_mem_cons.mpr ⟨lw_p9, List.forall_mem_cons.mpr ⟨lw_p10, List.forall_mem_cons.mpr ⟨lw_p11, List.forall_mem_cons.mpr ⟨lw_p12, List.forall_mem_cons.mpr ⟨lw_p13, List.forall_mem_cons.mpr ⟨lw_p14, List.forall_mem_cons.mpr ⟨lw_p15, fun _ h => absurd h List.not_mem_nil⟩⟩⟩⟩⟩⟩⟩⟩⟩⟩⟩⟩⟩⟩⟩⟩
theorem lw_p16 : lw_okq (⟨"IceYard", "faulty", "(I)I"⟩, 13) := ⟨⟨by decide +kernel, by decide +kernel⟩, List.mem_of_getElem? (i := 13) (by decide +kernel), List.mem_of_getElem? (i := 471) (by decide +kernel), List.mem_of_getElem? (i := 472) (by decide +kernel)⟩
theorem lw_p17 : lw_okq (⟨"IceYard$Sheet", "cut", "(I)I"⟩, 3) := ⟨⟨by decide +kernel, by decide +kernel⟩, List.mem_of_getElem? (i := 222) (by decide +kernel), List.mem_of_getElem? (i := 508) (by decide +kernel), List.mem_of_getElem? (i := 509) (by decide +kernel)⟩
theorem lw_p18 : lw_okq (⟨"IceYard", "takeYard", "(LIceYard$Sheet;II)V"⟩, 13) := ⟨⟨by decide +kernel, by decide +kernel⟩, List.mem_of_getElem? (i := 13) (by decide +kernel), List.mem_of_getElem? (i := 544) (by decide +kernel), List.mem_of_getElem? (i := 545) (by decide +kernel)⟩
theorem lw_p19 : lw_okq (⟨"IceYard$Ground", "layCell", "(II)V"⟩, 13) := ⟨⟨by decide +kernel, by decide +kernel⟩, List.mem_of_getElem? (i := 21) (by decide +kernel), List.mem_of_getElem? (i := 554) (by decide +kernel), List.mem_of_getElem? (i := 555) (by decide +kernel)⟩
theorem lw_p20 : lw_okq (⟨"IceYard$Ground", "layCrack", "(I)V"⟩, 13) := ⟨⟨by decide +kernel, by decide +kernel⟩, List.mem_of_getElem? (i := 21) (by decide +kernel), List.mem_of_getElem? (i := 558) (by decide +kernel), List.mem_of_getElem? (i := 559) (by decide +kernel)⟩
theorem lw_p21 : lw_okq (⟨"IceYard$Ground", "layBlock", "(II)V"⟩, 13) := ⟨⟨by decide +kernel, by decide +kernel⟩, List.mem_of_getElem? (i := 21) (by decide +kernel), List.mem_of_getElem? (i := 563) (by decide +kernel), List.mem_of_getElem? (i := 564) (by decide +kernel)⟩
theorem lw_p22 : lw_okq (⟨"IceYard$Ground", "layWays", "()V"⟩, 13) := ⟨⟨by decide +kernel, by decide +kernel⟩, List.mem_of_getElem? (i := 21) (by decide +kernel), List.mem_of_getElem? (i := 567) (by decide +kernel), List.mem_of_getElem? (i := 568) (by decide +kernel)⟩
theorem lw_p23 : lw_okq (⟨"IceYard$Ground", "layWay", "(IIZI)V"⟩, 13) := ⟨⟨by decide +kernel, by decide +kernel⟩, List.mem_of_getElem? (i := 21) (by decide +kernel), List.mem_of_getElem? (i := 571) (by decide +kernel), List.mem_of_getElem? (i := 572) (by decide +kernel)⟩
def lw_privs_2 : List (MethodName × Nat) := [(⟨"IceYard", "faulty", "(I)I"⟩, 13), (⟨"IceYard$Sheet", "cut", "(I)I"⟩, 3), (⟨"IceYard", "takeYard", "(LIceYard$Sheet;II)V"⟩, 13), (⟨"IceYard$Ground", "layCell", "(II)V"⟩, 13), (⟨"IceYard$Ground", "layCrack", "(I)V"⟩, 13), (⟨"IceYard$Ground", "layBlock", "(II)V"⟩, 13), (⟨"IceYard$Ground", "layWays", "()V"⟩, 13), (⟨"IceYard$Ground", "layWay", "(IIZI)V"⟩, 13)]
theorem lw_r2 : ∀ q ∈ lw_privs_2, lw_okq q := List.forall_mem_cons.mpr ⟨lw_p16, List.forall_mem_cons.mpr ⟨lw_p17, List.forall_mem_cons.mpr ⟨lw_p18, List.forall_mem_cons.mpr ⟨lw_p19, List.forall_mem_cons.mpr ⟨lw_p20, List.forall_mem_cons.mpr ⟨lw_p21, List.forall_mem_cons.mpr ⟨lw_p22, List.forall_mem_cons.mpr ⟨lw_p23, fun _ h => absurd h List.not_mem_nil⟩⟩⟩⟩⟩⟩⟩⟩
def lw_privs : List (MethodName × Nat) := lw_privs_1 ++ (lw_privs_2)
def lw_tbl : List Cond := k2_sels lw_privs ++ tables_1
theorem lw_privs_ok : ∀ q ∈ lw_privs, lw_okq q := by
  show ∀ q ∈ lw_privs_1 ++ (lw_privs_2), lw_okq q
  exact List.forall_mem_append.mpr ⟨lw_r1, lw_r2⟩
/-! ===== BEGIN words of one list among another's, by their places ===== -/
/-! ===== END ===== -/

/-! ===== BEGIN printed: names, fields, word lists, decode rows ===== -/
def RX0 : String := "IceYard$Game"
def TX0 : u_T := fun k => match k with
  | 0 => ("IceYard$Game", "ground", "LIceYard$Ground;", true)
  | 1 => ("IceYard$Game", "slider", "LIceYard$Slider;", true)
  | _ => ("IceYard$Game", "winning", "I", false)
def tyX0 : Nat → FieldType := fun k => match k with
  | 0 => .object "IceYard$Ground"
  | 1 => .object "IceYard$Slider"
  | _ => .int
abbrev wsX00 : List Cond := u_ws RX0 TX0 3
theorem nmX0 : ∀ a, a < 3 → ∀ b, b < 3 → a ≠ b → (TX0 a).2.1 ≠ (TX0 b).2.1 := by decide +kernel
theorem tyX0_ok : ∀ k, k < 3 → parseFieldDescriptor (TX0 k).2.2.1 = some (tyX0 k) := by decide +kernel
abbrev cX0_init : ByteArray := prog_2_method_1_code
def yX0_init : MethodName := ⟨RX0, "<init>", "(LIceYard$Ground;LIceYard$Slider;)V"⟩
abbrev cX0_leastTurns : ByteArray := prog_2_method_2_code
def yX0_leastTurns : MethodName := ⟨RX0, "leastTurns", "(JI)I"⟩
abbrev cX0_winningPush : ByteArray := prog_2_method_3_code
def yX0_winningPush : MethodName := ⟨RX0, "winningPush", "(JII)I"⟩
abbrev cX0_winsWhateverComes : ByteArray := prog_2_method_4_code
def yX0_winsWhateverComes : MethodName := ⟨RX0, "winsWhateverComes", "(JII)Z"⟩
def RX1 : String := "IceYard$Ground"
def TX1 : u_T := fun k => match k with
  | 0 => ("IceYard$Ground", "kinds", "[I", true)
  | 1 => ("IceYard$Ground", "starts", "[I", true)
  | 2 => ("IceYard$Ground", "cracks", "[I", true)
  | 3 => ("IceYard$Ground", "ways", "[I", true)
  | 4 => ("IceYard$Ground", "high", "I", false)
  | 5 => ("IceYard$Ground", "wide", "I", false)
  | 6 => ("IceYard$Ground", "blocks", "I", false)
  | 7 => ("IceYard$Ground", "crackCount", "I", false)
  | 8 => ("IceYard$Ground", "walls", "J", false)
  | 9 => ("IceYard$Ground", "sand", "J", false)
  | 10 => ("IceYard$Ground", "gate0", "J", false)
  | 11 => ("IceYard$Ground", "gate1", "J", false)
  | _ => ("IceYard$Ground", "ice", "J", false)
def tyX1 : Nat → FieldType := fun k => match k with
  | 0 => .array .int
  | 1 => .array .int
  | 2 => .array .int
  | 3 => .array .int
  | 4 => .int
  | 5 => .int
  | 6 => .int
  | 7 => .int
  | 8 => .long
  | 9 => .long
  | 10 => .long
  | 11 => .long
  | _ => .long
abbrev wsX10 : List Cond := u_ws RX1 TX1 13
theorem nmX1 : ∀ a, a < 13 → ∀ b, b < 13 → a ≠ b → (TX1 a).2.1 ≠ (TX1 b).2.1 := by decide +kernel
theorem tyX1_ok : ∀ k, k < 13 → parseFieldDescriptor (TX1 k).2.2.1 = some (tyX1 k) := by decide +kernel
abbrev cX1_init : ByteArray := prog_3_method_1_code
def yX1_init : MethodName := ⟨RX1, "<init>", "()V"⟩
abbrev cX1_cells : ByteArray := prog_3_method_2_code
def yX1_cells : MethodName := ⟨RX1, "cells", "()I"⟩
abbrev cX1_hasBlock : ByteArray := prog_3_method_3_code
def yX1_hasBlock : MethodName := ⟨RX1, "hasBlock", "(I)Z"⟩
abbrev cX1_kindOf : ByteArray := prog_3_method_4_code
def yX1_kindOf : MethodName := ⟨RX1, "kindOf", "(I)I"⟩
abbrev cX1_startOf : ByteArray := prog_3_method_5_code
def yX1_startOf : MethodName := ⟨RX1, "startOf", "(I)I"⟩
abbrev cX1_wayFrom : ByteArray := prog_3_method_6_code
def yX1_wayFrom : MethodName := ⟨RX1, "wayFrom", "(II)I"⟩
abbrev cX1_lay : ByteArray := prog_3_method_7_code
def yX1_lay : MethodName := ⟨RX1, "lay", "(LIceYard$Sheet;II)V"⟩
abbrev cX1_layCell : ByteArray := prog_3_method_8_code
def yX1_layCell : MethodName := ⟨RX1, "layCell", "(II)V"⟩
abbrev cX1_layCrack : ByteArray := prog_3_method_9_code
def yX1_layCrack : MethodName := ⟨RX1, "layCrack", "(I)V"⟩
abbrev cX1_layBlock : ByteArray := prog_3_method_10_code
def yX1_layBlock : MethodName := ⟨RX1, "layBlock", "(II)V"⟩
abbrev cX1_layWays : ByteArray := prog_3_method_11_code
def yX1_layWays : MethodName := ⟨RX1, "layWays", "()V"⟩
abbrev cX1_layWay : ByteArray := prog_3_method_12_code
def yX1_layWay : MethodName := ⟨RX1, "layWay", "(IIZI)V"⟩
abbrev cX1_firstYard : ByteArray := prog_3_method_13_code
def yX1_firstYard : MethodName := ⟨RX1, "firstYard", "()J"⟩
abbrev cX1_openCracks : ByteArray := prog_3_method_14_code
def yX1_openCracks : MethodName := ⟨RX1, "openCracks", "(J)J"⟩
abbrev cX1_fillCrack : ByteArray := prog_3_method_15_code
def yX1_fillCrack : MethodName := ⟨RX1, "fillCrack", "(JI)J"⟩
def RX2 : String := "IceYard$RowCount"
def TX2 : u_T := fun k => match k with
  | 0 => ("IceYard$RowCount", "ground", "LIceYard$Ground;", true)
  | 1 => ("IceYard$RowCount", "slider", "LIceYard$Slider;", true)
  | 2 => ("IceYard$RowCount", "row", "[I", true)
  | 3 => ("IceYard$RowCount", "firstRow", "[I", true)
  | 4 => ("IceYard$RowCount", "told", "J", false)
  | _ => ("IceYard$RowCount", "found", "I", false)
def tyX2 : Nat → FieldType := fun k => match k with
  | 0 => .object "IceYard$Ground"
  | 1 => .object "IceYard$Slider"
  | 2 => .array .int
  | 3 => .array .int
  | 4 => .long
  | _ => .int
abbrev wsX20 : List Cond := u_ws RX2 TX2 6
theorem nmX2 : ∀ a, a < 6 → ∀ b, b < 6 → a ≠ b → (TX2 a).2.1 ≠ (TX2 b).2.1 := by decide +kernel
theorem tyX2_ok : ∀ k, k < 6 → parseFieldDescriptor (TX2 k).2.2.1 = some (tyX2 k) := by decide +kernel
abbrev cX2_init : ByteArray := prog_4_method_1_code
def yX2_init : MethodName := ⟨RX2, "<init>", "(LIceYard$Ground;LIceYard$Slider;)V"⟩
abbrev cX2_count : ByteArray := prog_4_method_2_code
def yX2_count : MethodName := ⟨RX2, "count", "(JIJ)I"⟩
abbrev cX2_pushAt : ByteArray := prog_4_method_3_code
def yX2_pushAt : MethodName := ⟨RX2, "pushAt", "(I)I"⟩
abbrev cX2_walk : ByteArray := prog_4_method_4_code
def yX2_walk : MethodName := ⟨RX2, "walk", "(JIIJ)V"⟩
abbrev cX2_countRow : ByteArray := prog_4_method_5_code
def yX2_countRow : MethodName := ⟨RX2, "countRow", "(I)V"⟩
def RX3 : String := "IceYard$SandPlan"
def TX3 : u_T := fun k => match k with
  | 0 => ("IceYard$SandPlan", "ground", "LIceYard$Ground;", true)
  | 1 => ("IceYard$SandPlan", "slider", "LIceYard$Slider;", true)
  | _ => ("IceYard$SandPlan", "cell", "I", false)
def tyX3 : Nat → FieldType := fun k => match k with
  | 0 => .object "IceYard$Ground"
  | 1 => .object "IceYard$Slider"
  | _ => .int
abbrev wsX30 : List Cond := u_ws RX3 TX3 3
theorem nmX3 : ∀ a, a < 3 → ∀ b, b < 3 → a ≠ b → (TX3 a).2.1 ≠ (TX3 b).2.1 := by decide +kernel
theorem tyX3_ok : ∀ k, k < 3 → parseFieldDescriptor (TX3 k).2.2.1 = some (tyX3 k) := by decide +kernel
abbrev cX3_init : ByteArray := prog_5_method_1_code
def yX3_init : MethodName := ⟨RX3, "<init>", "(LIceYard$Ground;LIceYard$Slider;)V"⟩
abbrev cX3_fewestCells : ByteArray := prog_5_method_2_code
def yX3_fewestCells : MethodName := ⟨RX3, "fewestCells", "(JIII)I"⟩
abbrev cX3_freeIce : ByteArray := prog_5_method_3_code
def yX3_freeIce : MethodName := ⟨RX3, "freeIce", "(J)J"⟩
abbrev cX3_bringsHome : ByteArray := prog_5_method_4_code
def yX3_bringsHome : MethodName := ⟨RX3, "bringsHome", "(JIII)Z"⟩
def RX4 : String := "IceYard$Search"
def TX4 : u_T := fun k => match k with
  | 0 => ("IceYard$Search", "ground", "LIceYard$Ground;", true)
  | 1 => ("IceYard$Search", "slider", "LIceYard$Slider;", true)
  | 2 => ("IceYard$Search", "yards", "[J", true)
  | 3 => ("IceYard$Search", "origins", "[I", true)
  | 4 => ("IceYard$Search", "numbers", "[I", true)
  | 5 => ("IceYard$Search", "row", "[I", true)
  | 6 => ("IceYard$Search", "slots", "[I", true)
  | 7 => ("IceYard$Search", "count", "I", false)
  | _ => ("IceYard$Search", "length", "I", false)
def tyX4 : Nat → FieldType := fun k => match k with
  | 0 => .object "IceYard$Ground"
  | 1 => .object "IceYard$Slider"
  | 2 => .array .long
  | 3 => .array .int
  | 4 => .array .int
  | 5 => .array .int
  | 6 => .array .int
  | 7 => .int
  | _ => .int
abbrev wsX40 : List Cond := u_ws RX4 TX4 9
theorem nmX4 : ∀ a, a < 9 → ∀ b, b < 9 → a ≠ b → (TX4 a).2.1 ≠ (TX4 b).2.1 := by decide +kernel
theorem tyX4_ok : ∀ k, k < 9 → parseFieldDescriptor (TX4 k).2.2.1 = some (tyX4 k) := by decide +kernel
abbrev cX4_init : ByteArray := prog_6_method_1_code
def yX4_init : MethodName := ⟨RX4, "<init>", "(LIceYard$Ground;LIceYard$Slider;)V"⟩
abbrev cX4_fewestPushes : ByteArray := prog_6_method_2_code
def yX4_fewestPushes : MethodName := ⟨RX4, "fewestPushes", "(JI)I"⟩
abbrev cX4_pushAt : ByteArray := prog_6_method_3_code
def yX4_pushAt : MethodName := ⟨RX4, "pushAt", "(I)I"⟩
abbrev cX4_goOnFrom : ByteArray := prog_6_method_4_code
def yX4_goOnFrom : MethodName := ⟨RX4, "goOnFrom", "(II)I"⟩
abbrev cX4_note : ByteArray := prog_6_method_5_code
def yX4_note : MethodName := ⟨RX4, "note", "(JII)Z"⟩
abbrev cX4_slotOf : ByteArray := prog_6_method_6_code
def yX4_slotOf : MethodName := ⟨RX4, "slotOf", "(J)I"⟩
abbrev cX4_writeRow : ByteArray := prog_6_method_7_code
def yX4_writeRow : MethodName := ⟨RX4, "writeRow", "(II)V"⟩
def RX5 : String := "IceYard$Sheet"
def TX5 : u_T := fun k => match k with
  | 0 => ("IceYard$Sheet", "cells", "[I", true)
  | 1 => ("IceYard$Sheet", "lane", "I", false)
  | _ => ("IceYard$Sheet", "count", "I", false)
def tyX5 : Nat → FieldType := fun k => match k with
  | 0 => .array .int
  | 1 => .int
  | _ => .int
abbrev wsX50 : List Cond := u_ws RX5 TX5 3
theorem nmX5 : ∀ a, a < 3 → ∀ b, b < 3 → a ≠ b → (TX5 a).2.1 ≠ (TX5 b).2.1 := by decide +kernel
theorem tyX5_ok : ∀ k, k < 3 → parseFieldDescriptor (TX5 k).2.2.1 = some (tyX5 k) := by decide +kernel
abbrev cX5_init : ByteArray := prog_7_method_1_code
def yX5_init : MethodName := ⟨RX5, "<init>", "()V"⟩
abbrev cX5_hasNothing : ByteArray := prog_7_method_2_code
def yX5_hasNothing : MethodName := ⟨RX5, "hasNothing", "()Z"⟩
abbrev cX5_renew : ByteArray := prog_7_method_4_code
def yX5_renew : MethodName := ⟨RX5, "renew", "(II)V"⟩
abbrev cX5_faultTakenAs : ByteArray := prog_7_method_5_code
def yX5_faultTakenAs : MethodName := ⟨RX5, "faultTakenAs", "(I)I"⟩
abbrev cX5_hasCell : ByteArray := prog_7_method_6_code
def yX5_hasCell : MethodName := ⟨RX5, "hasCell", "(I)Z"⟩
abbrev cX5_hasCells : ByteArray := prog_7_method_7_code
def yX5_hasCells : MethodName := ⟨RX5, "hasCells", "(II)Z"⟩
abbrev cX5_read : ByteArray := prog_7_method_8_code
def yX5_read : MethodName := ⟨RX5, "read", "(I)I"⟩
abbrev cX5_write : ByteArray := prog_7_method_9_code
def yX5_write : MethodName := ⟨RX5, "write", "(II)V"⟩
abbrev cX5_cut : ByteArray := prog_7_method_10_code
def yX5_cut : MethodName := ⟨RX5, "cut", "(I)I"⟩
def RX6 : String := "IceYard$Slider"
def TX6 : u_T := fun k => match k with
  | 0 => ("IceYard$Slider", "ground", "LIceYard$Ground;", true)
  | 1 => ("IceYard$Slider", "places", "[I", true)
  | 2 => ("IceYard$Slider", "loaded", "J", false)
  | 3 => ("IceYard$Slider", "occupied", "J", false)
  | 4 => ("IceYard$Slider", "openCracks", "J", false)
  | 5 => ("IceYard$Slider", "trialSand", "J", false)
  | 6 => ("IceYard$Slider", "after", "J", false)
  | 7 => ("IceYard$Slider", "tracks", "J", false)
  | 8 => ("IceYard$Slider", "homeBlock", "I", false)
  | _ => ("IceYard$Slider", "homeGate", "I", false)
def tyX6 : Nat → FieldType := fun k => match k with
  | 0 => .object "IceYard$Ground"
  | 1 => .array .int
  | 2 => .long
  | 3 => .long
  | 4 => .long
  | 5 => .long
  | 6 => .long
  | 7 => .long
  | 8 => .int
  | _ => .int
abbrev wsX60 : List Cond := u_ws RX6 TX6 10
theorem nmX6 : ∀ a, a < 10 → ∀ b, b < 10 → a ≠ b → (TX6 a).2.1 ≠ (TX6 b).2.1 := by decide +kernel
theorem tyX6_ok : ∀ k, k < 10 → parseFieldDescriptor (TX6 k).2.2.1 = some (tyX6 k) := by decide +kernel
abbrev cX6_init : ByteArray := prog_8_method_1_code
def yX6_init : MethodName := ⟨RX6, "<init>", "(LIceYard$Ground;)V"⟩
abbrev cX6_forget : ByteArray := prog_8_method_2_code
def yX6_forget : MethodName := ⟨RX6, "forget", "()V"⟩
abbrev cX6_goes : ByteArray := prog_8_method_3_code
def yX6_goes : MethodName := ⟨RX6, "goes", "(JII)Z"⟩
abbrev cX6_load : ByteArray := prog_8_method_4_code
def yX6_load : MethodName := ⟨RX6, "load", "(J)V"⟩
abbrev cX6_slideOne : ByteArray := prog_8_method_5_code
def yX6_slideOne : MethodName := ⟨RX6, "slideOne", "(II)I"⟩
abbrev cX6_leave : ByteArray := prog_8_method_6_code
def yX6_leave : MethodName := ⟨RX6, "leave", "(II)V"⟩
abbrev cX6_blockIn : ByteArray := prog_8_method_7_code
def yX6_blockIn : MethodName := ⟨RX6, "blockIn", "(I)I"⟩
def RX7 : String := "IceYard$Text"
def TX7 : u_T := fun k => match k with
  | _ => ("", "", "", false)
def tyX7 : Nat → FieldType := fun k => match k with
  | _ => .int
abbrev wsX70 : List Cond := u_ws RX7 TX7 0
theorem nmX7 : ∀ a, a < 0 → ∀ b, b < 0 → a ≠ b → (TX7 a).2.1 ≠ (TX7 b).2.1 := by decide +kernel
theorem tyX7_ok : ∀ k, k < 0 → parseFieldDescriptor (TX7 k).2.2.1 = some (tyX7 k) := by decide +kernel
abbrev cX7_firstFault : ByteArray := prog_9_method_2_code
def yX7_firstFault : MethodName := ⟨RX7, "firstFault", "(LIceYard$Sheet;II)I"⟩
abbrev cX7_fits : ByteArray := prog_9_method_3_code
def yX7_fits : MethodName := ⟨RX7, "fits", "(IIII)Z"⟩
abbrev cX7_opensRow : ByteArray := prog_9_method_4_code
def yX7_opensRow : MethodName := ⟨RX7, "opensRow", "(II)Z"⟩
abbrev cX7_isSign : ByteArray := prog_9_method_5_code
def yX7_isSign : MethodName := ⟨RX7, "isSign", "(I)Z"⟩
abbrev cX7_kindOfSign : ByteArray := prog_9_method_6_code
def yX7_kindOfSign : MethodName := ⟨RX7, "kindOfSign", "(I)I"⟩
def RX8 : String := "IceYard"
def TX8 : u_T := fun k => match k with
  | 0 => ("IceYard", "ground", "LIceYard$Ground;", true)
  | 1 => ("IceYard", "slider", "LIceYard$Slider;", true)
  | 2 => ("IceYard", "search", "LIceYard$Search;", true)
  | 3 => ("IceYard", "game", "LIceYard$Game;", true)
  | 4 => ("IceYard", "rowCount", "LIceYard$RowCount;", true)
  | 5 => ("IceYard", "sandPlan", "LIceYard$SandPlan;", true)
  | 6 => ("IceYard", "sheets", "[LIceYard$Sheet;", true)
  | 7 => ("IceYard", "yardsBefore", "[J", true)
  | 8 => ("IceYard", "images", "[J", true)
  | 9 => ("IceYard", "now", "J", false)
  | 10 => ("IceYard", "pushes", "I", false)
  | 11 => ("IceYard", "trace", "I", false)
  | _ => ("IceYard", "fault", "I", false)
def tyX8 : Nat → FieldType := fun k => match k with
  | 0 => .object "IceYard$Ground"
  | 1 => .object "IceYard$Slider"
  | 2 => .object "IceYard$Search"
  | 3 => .object "IceYard$Game"
  | 4 => .object "IceYard$RowCount"
  | 5 => .object "IceYard$SandPlan"
  | 6 => .array (.object "IceYard$Sheet")
  | 7 => .array .long
  | 8 => .array .long
  | 9 => .long
  | 10 => .int
  | 11 => .int
  | _ => .int
abbrev wsX80 : List Cond := u_ws RX8 TX8 13
theorem nmX8 : ∀ a, a < 13 → ∀ b, b < 13 → a ≠ b → (TX8 a).2.1 ≠ (TX8 b).2.1 := by decide +kernel
theorem tyX8_ok : ∀ k, k < 13 → parseFieldDescriptor (TX8 k).2.2.1 = some (tyX8 k) := by decide +kernel
abbrev cX8_init : ByteArray := prog_1_method_1_code
def yX8_init : MethodName := ⟨RX8, "<init>", "()V"⟩
abbrev cX8_yard : ByteArray := prog_1_method_2_code
def yX8_yard : MethodName := ⟨RX8, "yard", "(IIII)I"⟩
abbrev cX8_takeYard : ByteArray := prog_1_method_3_code
def yX8_takeYard : MethodName := ⟨RX8, "takeYard", "(LIceYard$Sheet;II)V"⟩
abbrev cX8_ofBlock : ByteArray := prog_1_method_5_code
def yX8_ofBlock : MethodName := ⟨RX8, "ofBlock", "(II)I"⟩
abbrev cX8_push : ByteArray := prog_1_method_6_code
def yX8_push : MethodName := ⟨RX8, "push", "(II)I"⟩
abbrev cX8_refusalOfPush : ByteArray := prog_1_method_9_code
def yX8_refusalOfPush : MethodName := ⟨RX8, "refusalOfPush", "(II)I"⟩
abbrev cX8_fewest : ByteArray := prog_1_method_13_code
def yX8_fewest : MethodName := ⟨RX8, "fewest", "(II)I"⟩
abbrev cX8_won : ByteArray := prog_1_method_14_code
def yX8_won : MethodName := ⟨RX8, "won", "(I)I"⟩
abbrev cX8_first : ByteArray := prog_1_method_15_code
def yX8_first : MethodName := ⟨RX8, "first", "(I)I"⟩
abbrev cX8_rows : ByteArray := prog_1_method_16_code
def yX8_rows : MethodName := ⟨RX8, "rows", "(IJI)I"⟩
abbrev cX8_sand : ByteArray := prog_1_method_17_code
def yX8_sand : MethodName := ⟨RX8, "sand", "(IIII)I"⟩
abbrev cX8_sheet : ByteArray := prog_1_method_19_code
def yX8_sheet : MethodName := ⟨RX8, "sheet", "(III)I"⟩
abbrev cX8_put : ByteArray := prog_1_method_21_code
def yX8_put : MethodName := ⟨RX8, "put", "(III)I"⟩
abbrev cX8_faulty : ByteArray := prog_1_method_34_code
def yX8_faulty : MethodName := ⟨RX8, "faulty", "(I)I"⟩
abbrev cX8_sheetAt : ByteArray := prog_1_method_35_code
def yX8_sheetAt : MethodName := ⟨RX8, "sheetAt", "(I)LIceYard$Sheet;"⟩
abbrev cX8_isLane : ByteArray := prog_1_method_36_code
def yX8_isLane : MethodName := ⟨RX8, "isLane", "(I)Z"⟩
abbrev cX8_isGate : ByteArray := prog_1_method_37_code
def yX8_isGate : MethodName := ⟨RX8, "isGate", "(I)Z"⟩
abbrev cX8_placeOf : ByteArray := prog_1_method_38_code
def yX8_placeOf : MethodName := ⟨RX8, "placeOf", "(JI)I"⟩
abbrev cX8_withPlace : ByteArray := prog_1_method_39_code
def yX8_withPlace : MethodName := ⟨RX8, "withPlace", "(JII)J"⟩
abbrev cX8_whereIs : ByteArray := prog_1_method_40_code
def yX8_whereIs : MethodName := ⟨RX8, "whereIs", "(JI)I"⟩
abbrev cX8_has : ByteArray := prog_1_method_41_code
def yX8_has : MethodName := ⟨RX8, "has", "(JI)Z"⟩
abbrev cX8_pushNumber : ByteArray := prog_1_method_42_code
def yX8_pushNumber : MethodName := ⟨RX8, "pushNumber", "(II)I"⟩
def RX9 : String := "IceYardModel"
def TX9 : u_T := fun k => match k with
  | _ => ("", "", "", false)
def tyX9 : Nat → FieldType := fun k => match k with
  | _ => .int
abbrev wsX90 : List Cond := u_ws RX9 TX9 0
theorem nmX9 : ∀ a, a < 0 → ∀ b, b < 0 → a ≠ b → (TX9 a).2.1 ≠ (TX9 b).2.1 := by decide +kernel
theorem tyX9_ok : ∀ k, k < 0 → parseFieldDescriptor (TX9 k).2.2.1 = some (tyX9 k) := by decide +kernel
def RJ9 : String := "java/lang/Math"
def TJ9 : u_T := fun k => match k with
  | _ => ("", "", "", false)
def tyJ9 : Nat → FieldType := fun k => match k with
  | _ => .int
abbrev wsJ90 : List Cond := u_ws RJ9 TJ9 0
theorem nmJ9 : ∀ a, a < 0 → ∀ b, b < 0 → a ≠ b → (TJ9 a).2.1 ≠ (TJ9 b).2.1 := by decide +kernel
theorem tyJ9_ok : ∀ k, k < 0 → parseFieldDescriptor (TJ9 k).2.2.1 = some (tyJ9 k) := by decide +kernel
abbrev cJ9_min_7cf53 : ByteArray := prog_12_method_69_code
def yJ9_min_7cf53 : MethodName := ⟨RJ9, "min", "(II)I"⟩
def RJ7 : String := "java/util/Arrays"
def TJ7 : u_T := fun k => match k with
  | _ => ("", "", "", false)
def tyJ7 : Nat → FieldType := fun k => match k with
  | _ => .int
abbrev wsJ70 : List Cond := u_ws RJ7 TJ7 0
theorem nmJ7 : ∀ a, a < 0 → ∀ b, b < 0 → a ≠ b → (TJ7 a).2.1 ≠ (TJ7 b).2.1 := by decide +kernel
theorem tyJ7_ok : ∀ k, k < 0 → parseFieldDescriptor (TJ7 k).2.2.1 = some (tyJ7 k) := by decide +kernel
abbrev cJ7_fill_d0a16 : ByteArray := prog_13_method_101_code
def yJ7_fill_d0a16 : MethodName := ⟨RJ7, "fill", "([JJ)V"⟩
abbrev cJ7_fill_53178 : ByteArray := prog_13_method_103_code
def yJ7_fill_53178 : MethodName := ⟨RJ7, "fill", "([II)V"⟩
def RL : String := "IceYardLaw"
abbrev cL_cell : ByteArray := method_2_code
def yL_cell : MethodName := ⟨RL, "cell", "([II)I"⟩
abbrev cL_low : ByteArray := method_3_code
def yL_low : MethodName := ⟨RL, "low", "(II)I"⟩
abbrev cL_lay : ByteArray := method_4_code
def yL_lay : MethodName := ⟨RL, "lay", "(LIceYard;[I[I[IIII)I"⟩
abbrev cL_begun : ByteArray := method_5_code
def yL_begun : MethodName := ⟨RL, "begun", "([I)[I"⟩
abbrev cL_copied : ByteArray := method_6_code
def yL_copied : MethodName := ⟨RL, "copied", "([I)[I"⟩
abbrev cL_who : ByteArray := method_7_code
def yL_who : MethodName := ⟨RL, "who", "([II)I"⟩
abbrev cL_push : ByteArray := method_8_code
def yL_push : MethodName := ⟨RL, "push", "([I[I[I[JII)I"⟩
abbrev cL_law : ByteArray := code
def yL_law : MethodName := ⟨RL, "law", "([I)Z"⟩
abbrev cL_free : ByteArray := method_10_code
def yL_free : MethodName := ⟨RL, "free", "([I[II)Z"⟩
abbrev cL_outcome : ByteArray := method_11_code
def yL_outcome : MethodName := ⟨RL, "outcome", "([I[I[IJIIZ)I"⟩
abbrev cL_forced : ByteArray := method_12_code
def yL_forced : MethodName := ⟨RL, "forced", "([I[I[IJIII)Z"⟩
abbrev cL_wins : ByteArray := method_13_code
def yL_wins : MethodName := ⟨RL, "wins", "([I[I[IJII)Z"⟩
def wsL_cell : List Cond := .code yL_cell cL_cell 2 (some .int) :: ([.constant RL 7 (15485863)])
def wsL_low : List Cond := .code yL_low cL_low 2 (some .int) :: ([.constant RL 8 (2147483647)])
def wsL_lay_r1 : List Cond := [Cond.methodLink RL 9 yL_cell, Cond.static yL_cell, Cond.initialized RL, Cond.code yL_cell cL_cell 2 (some .int), Cond.constant RL 7 (15485863), Cond.methodLink RL 15 yL_low, Cond.static yL_low, Cond.code yL_low cL_low 2 (some .int), Cond.constant RL 8 (2147483647), Cond.methodLink RL 19 yX8_put, Cond.instanceMethod yX8_put, Cond.selects RX8 yX8_put yX8_put, Cond.initialized RX8, Cond.code yX8_put cX8_put 5 (some .int), Cond.fieldLink RX8 73 "IceYard" "fault" "I", Cond.methodLink RX8 77 yX8_sheetAt, Cond.instanceMethod yX8_sheetAt, Cond.selects RX8 yX8_sheetAt yX8_sheetAt, Cond.code yX8_sheetAt cX8_sheetAt 2 (some (.object "IceYard$Sheet")), Cond.fieldLink RX8 60 "IceYard" "sheets" "[LIceYard$Sheet;", Cond.methodLink RX8 211 yX5_hasNothing, Cond.instanceMethod yX5_hasNothing, Cond.selects RX5 yX5_hasNothing yX5_hasNothing, Cond.initialized RX5]
def wsL_lay_r2 : List Cond := [Cond.code yX5_hasNothing cX5_hasNothing 1 (some .boolean), Cond.fieldLink RX5 15 "IceYard$Sheet" "lane" "I", Cond.methodLink RX8 93 yX8_faulty, Cond.instanceMethod yX8_faulty, Cond.selects RX8 yX8_faulty yX8_faulty, Cond.code yX8_faulty cX8_faulty 2 (some .int), Cond.methodLink RX8 218 yX5_hasCell, Cond.instanceMethod yX5_hasCell, Cond.selects RX5 yX5_hasCell yX5_hasCell, Cond.code yX5_hasCell cX5_hasCell 2 (some .boolean), Cond.fieldLink RX5 19 "IceYard$Sheet" "count" "I", Cond.methodLink RX8 221 yX5_write, Cond.instanceMethod yX5_write, Cond.selects RX5 yX5_write yX5_write, Cond.code yX5_write cX5_write 3 none, Cond.fieldLink RX5 11 "IceYard$Sheet" "cells" "[I", Cond.methodLink RX5 32 yX5_hasCell, Cond.methodLink RX5 36 yX5_cut, Cond.instanceMethod yX5_cut, Cond.selects RX5 yX5_cut yX5_cut, Cond.code yX5_cut cX5_cut 2 (some .int), Cond.methodLink RL 25 yX8_yard, Cond.instanceMethod yX8_yard, Cond.selects RX8 yX8_yard yX8_yard]
def wsL_lay_r3 : List Cond := [Cond.code yX8_yard cX8_yard 8 (some .int), Cond.fieldLink RX8 14 "IceYard" "ground" "LIceYard$Ground;", Cond.fieldLink RX8 106 "IceYard$Ground" "blocks" "I", Cond.methodLink RX8 81 yX8_isLane, Cond.static yX8_isLane, Cond.code yX8_isLane cX8_isLane 1 (some .boolean), Cond.methodLink RX8 85 yX5_faultTakenAs, Cond.instanceMethod yX5_faultTakenAs, Cond.selects RX5 yX5_faultTakenAs yX5_faultTakenAs, Cond.code yX5_faultTakenAs cX5_faultTakenAs 2 (some .int), Cond.methodLink RX5 28 yX5_hasNothing, Cond.methodLink RX8 89 yX5_hasCells, Cond.instanceMethod yX5_hasCells, Cond.selects RX5 yX5_hasCells yX5_hasCells, Cond.code yX5_hasCells cX5_hasCells 3 (some .boolean), Cond.methodLink RX8 96 yX7_firstFault, Cond.static yX7_firstFault, Cond.initialized RX7, Cond.code yX7_firstFault cX7_firstFault 9 (some .int), Cond.methodLink RX7 9 yX5_read, Cond.instanceMethod yX5_read, Cond.selects RX5 yX5_read yX5_read, Cond.code yX5_read cX5_read 2 (some .int), Cond.methodLink RX7 15 yX7_fits]
def wsL_lay_r4 : List Cond := [Cond.static yX7_fits, Cond.code yX7_fits cX7_fits 4 (some .boolean), Cond.methodLink RX7 24 yX7_opensRow, Cond.static yX7_opensRow, Cond.code yX7_opensRow cX7_opensRow 2 (some .boolean), Cond.methodLink RX7 28 yX7_isSign, Cond.static yX7_isSign, Cond.code yX7_isSign cX7_isSign 1 (some .boolean), Cond.methodLink RX7 21 yX7_kindOfSign, Cond.static yX7_kindOfSign, Cond.code yX7_kindOfSign cX7_kindOfSign 1 (some .int), Cond.methodLink RX8 102 yX8_takeYard, Cond.instanceMethod yX8_takeYard, Cond.selects RX8 yX8_takeYard yX8_takeYard, Cond.code yX8_takeYard cX8_takeYard 4 none, Cond.fieldLink RX8 23 "IceYard" "slider" "LIceYard$Slider;", Cond.fieldLink RX8 119 "IceYard" "now" "J", Cond.fieldLink RX8 123 "IceYard" "pushes" "I", Cond.fieldLink RX8 70 "IceYard" "images" "[J", Cond.constantLong RX8 68 (-1), Cond.methodLink RX8 109 yX1_lay, Cond.instanceMethod yX1_lay, Cond.selects RX1 yX1_lay yX1_lay, Cond.initialized RX1]
def wsL_lay_r5 : List Cond := [Cond.code yX1_lay cX1_lay 6 none, Cond.fieldLink RX1 24 "IceYard$Ground" "high" "I", Cond.fieldLink RX1 28 "IceYard$Ground" "wide" "I", Cond.fieldLink RX1 31 "IceYard$Ground" "blocks" "I", Cond.fieldLink RX1 44 "IceYard$Ground" "crackCount" "I", Cond.fieldLink RX1 47 "IceYard$Ground" "walls" "J", Cond.fieldLink RX1 51 "IceYard$Ground" "sand" "J", Cond.fieldLink RX1 54 "IceYard$Ground" "gate0" "J", Cond.fieldLink RX1 57 "IceYard$Ground" "gate1" "J", Cond.fieldLink RX1 60 "IceYard$Ground" "ice" "J", Cond.methodLink RX1 38 yX5_read, Cond.methodLink RX1 65 yX7_opensRow, Cond.methodLink RX1 69 yX1_layCell, Cond.instanceMethod yX1_layCell, Cond.selects RX1 yX1_layCell yX1_layCell, Cond.code yX1_layCell cX1_layCell 5 none, Cond.methodLink RX1 76 yX1_layCrack, Cond.instanceMethod yX1_layCrack, Cond.selects RX1 yX1_layCrack yX1_layCrack, Cond.code yX1_layCrack cX1_layCrack 2 none, Cond.fieldLink RX1 18 "IceYard$Ground" "cracks" "[I", Cond.methodLink RX1 80 yX7_kindOfSign, Cond.methodLink RX1 83 yX1_layBlock, Cond.instanceMethod yX1_layBlock]
def wsL_lay_r6 : List Cond := [Cond.selects RX1 yX1_layBlock yX1_layBlock, Cond.code yX1_layBlock cX1_layBlock 3 none, Cond.fieldLink RX1 9 "IceYard$Ground" "kinds" "[I", Cond.fieldLink RX1 15 "IceYard$Ground" "starts" "[I", Cond.methodLink RX1 73 yX1_layWays, Cond.instanceMethod yX1_layWays, Cond.selects RX1 yX1_layWays yX1_layWays, Cond.code yX1_layWays cX1_layWays 4 none, Cond.methodLink RX1 86 yX1_layWay, Cond.instanceMethod yX1_layWay, Cond.selects RX1 yX1_layWay yX1_layWay, Cond.code yX1_layWay cX1_layWay 6 none, Cond.fieldLink RX1 21 "IceYard$Ground" "ways" "[I", Cond.static yX8_has, Cond.code yX8_has cX8_has 3 (some .boolean), Cond.methodLink RX8 112 yX6_forget, Cond.instanceMethod yX6_forget, Cond.selects RX6 yX6_forget yX6_forget, Cond.initialized RX6, Cond.code yX6_forget cX6_forget 1 none, Cond.constantLong RX6 15 (-1), Cond.fieldLink RX6 17 "IceYard$Slider" "loaded" "J", Cond.methodLink RX8 115 yX1_firstYard, Cond.instanceMethod yX1_firstYard]
def wsL_lay_r7 : List Cond := [Cond.selects RX1 yX1_firstYard yX1_firstYard, Cond.code yX1_firstYard cX1_firstYard 4 (some .long), Cond.methodLink RX1 94 yX1_startOf, Cond.instanceMethod yX1_startOf, Cond.selects RX1 yX1_startOf yX1_startOf, Cond.code yX1_startOf cX1_startOf 2 (some .int), Cond.methodLink RX1 34 yX1_hasBlock, Cond.instanceMethod yX1_hasBlock, Cond.selects RX1 yX1_hasBlock yX1_hasBlock, Cond.code yX1_hasBlock cX1_hasBlock 2 (some .boolean), Cond.static yX8_withPlace, Cond.code yX8_withPlace cX8_withPlace 5 (some .long), Cond.constantLong RX8 266 (63), Cond.methodLink RX8 126 yJ7_fill_d0a16, Cond.static yJ7_fill_d0a16, Cond.initialized RJ7, Cond.code yJ7_fill_d0a16 cJ7_fill_d0a16 5 none]
def wsL_lay : List Cond := .code yL_lay cL_lay 16 (some .int) :: ((wsL_lay_r1 ++ (wsL_lay_r2 ++ (wsL_lay_r3 ++ (wsL_lay_r4 ++ (wsL_lay_r5 ++ (wsL_lay_r6 ++ wsL_lay_r7)))))) ++ wsX80 ++ wsX50 ++ wsX10 ++ wsX60)
def wsL_begun : List Cond := .code yL_begun cL_begun 3 (some (.array .int)) :: ([.arrayClass .int])
def wsL_copied : List Cond := .code yL_copied cL_copied 3 (some (.array .int)) :: ([.arrayClass .int])
def wsL_who : List Cond := .code yL_who cL_who 3 (some .int) :: ([])
def wsL_push : List Cond := .code yL_push cL_push 14 (some .int) :: ([.methodLink RL 29 yL_who, .static yL_who, .initialized RL, .code yL_who cL_who 3 (some .int)])
def wsL_outcome : List Cond := .code yL_outcome cL_outcome 13 (some .int) :: ([.arrayClass .long, .methodLink RL 44 yL_copied, .static yL_copied, .initialized RL, .code yL_copied cL_copied 3 (some (.array .int)), .arrayClass .int, .methodLink RL 47 yL_push, .static yL_push, .code yL_push cL_push 14 (some .int), .methodLink RL 29 yL_who, .static yL_who, .code yL_who cL_who 3 (some .int)])
def wsL_wins : List Cond := .code yL_wins cL_wins 11 (some .boolean) :: ([.arrayClass .long, .methodLink RL 44 yL_copied, .static yL_copied, .initialized RL, .code yL_copied cL_copied 3 (some (.array .int)), .arrayClass .int, .methodLink RL 47 yL_push, .static yL_push, .code yL_push cL_push 14 (some .int), .methodLink RL 29 yL_who, .static yL_who, .code yL_who cL_who 3 (some .int), .methodLink RL 56 yL_outcome, .static yL_outcome, .code yL_outcome cL_outcome 13 (some .int)])
def wsL_forced : List Cond := .code yL_forced cL_forced 14 (some .boolean) :: ([.arrayClass .long, .methodLink RL 44 yL_copied, .static yL_copied, .initialized RL, .code yL_copied cL_copied 3 (some (.array .int)), .arrayClass .int, .methodLink RL 47 yL_push, .static yL_push, .code yL_push cL_push 14 (some .int), .methodLink RL 29 yL_who, .static yL_who, .code yL_who cL_who 3 (some .int), .methodLink RL 56 yL_outcome, .static yL_outcome, .code yL_outcome cL_outcome 13 (some .int), .methodLink RL 87 yL_wins, .static yL_wins, .code yL_wins cL_wins 11 (some .boolean)])
def wsL_free : List Cond := .code yL_free cL_free 3 (some .boolean) :: ([.methodLink RL 29 yL_who, .static yL_who, .initialized RL, .code yL_who cL_who 3 (some .int)])
abbrev vwCl : List vw_C := [(RX0, TX0, 3), (RX1, TX1, 13), (RX2, TX2, 6), (RX3, TX3, 3), (RX4, TX4, 9), (RX5, TX5, 3), (RX6, TX6, 10), (RX8, TX8, 13)]
/-- the words that every method is proved with: all good ones of the tables -/
def BW : List Cond := lw_tbl.filter goodWord
theorem bw_good : ∀ w ∈ BW, goodWord w = true := fun _ h => (List.mem_filter.mp h).2
theorem bw_in : ∀ w ∈ BW, w ∈ lw_tbl := fun _ h => (List.mem_filter.mp h).1
theorem bw1 (i : Nat) {w : Cond} (h : tables_1_1[i]? = some w) (g : goodWord w = true) : w ∈ BW := List.mem_filter.mpr ⟨List.mem_append_right _ (List.mem_append_left _ (List.mem_of_getElem? h)), g⟩
theorem bw2 (i : Nat) {w : Cond} (h : tables_1_2[i]? = some w) (g : goodWord w = true) : w ∈ BW := List.mem_filter.mpr ⟨List.mem_append_right _ (List.mem_append_right _ (List.mem_append_left _ (List.mem_of_getElem? h))), g⟩
theorem bw3 (i : Nat) {w : Cond} (h : tables_1_3[i]? = some w) (g : goodWord w = true) : w ∈ BW := List.mem_filter.mpr ⟨List.mem_append_right _ (List.mem_append_right _ (List.mem_append_right _ (List.mem_of_getElem? h))), g⟩
theorem bwp (i : Nat) {q : MethodName × Nat} (h : lw_privs[i]? = some q) : Cond.selects q.1.cls q.1 q.1 ∈ BW := List.mem_filter.mpr ⟨List.mem_append_left _ (List.mem_map.mpr ⟨q, List.mem_of_getElem? h, rfl⟩), rfl⟩
