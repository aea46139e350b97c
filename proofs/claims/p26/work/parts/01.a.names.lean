-- ===== PART A: goes FIRST, ahead of the names: the tables' words, and 'selects' of the private methods out of them =====
/-- a private method of a class that the tables say can be made, by its rows of tables_1 -/
def lw_okq (q : MethodName × Nat) : Prop := (q.1.cls ≠ "java/lang/invoke/MethodHandle" ∧ q.1.cls ≠ "java/lang/invoke/VarHandle") ∧ Cond.instantiable q.1.cls q.2 ∈ tables_1 ∧ Cond.privateMethod q.1 ∈ tables_1 ∧ Cond.instanceMethod q.1 ∈ tables_1
theorem lw_p0 : lw_okq (⟨"SeamMap", "beginAnew", "(II)V"⟩, 8) := ⟨⟨by decide +kernel, by decide +kernel⟩, List.mem_of_getElem? (i := 12) (by decide +kernel), List.mem_of_getElem? (i := 191) (by decide +kernel), List.mem_of_getElem? (i := 192) (by decide +kernel)⟩
theorem lw_p1 : lw_okq (⟨"SeamMap$Surface", "joinTiles", "()V"⟩, 6) := ⟨⟨by decide +kernel, by decide +kernel⟩, List.mem_of_getElem? (i := 20) (by decide +kernel), List.mem_of_getElem? (i := 203) (by decide +kernel), List.mem_of_getElem? (i := 204) (by decide +kernel)⟩
theorem lw_p2 : lw_okq (⟨"SeamMap$Surface", "joinInside", "()V"⟩, 6) := ⟨⟨by decide +kernel, by decide +kernel⟩, List.mem_of_getElem? (i := 20) (by decide +kernel), List.mem_of_getElem? (i := 211) (by decide +kernel), List.mem_of_getElem? (i := 212) (by decide +kernel)⟩
theorem lw_p3 : lw_okq (⟨"SeamMap$Surface", "join", "(IIII)V"⟩, 6) := ⟨⟨by decide +kernel, by decide +kernel⟩, List.mem_of_getElem? (i := 20) (by decide +kernel), List.mem_of_getElem? (i := 215) (by decide +kernel), List.mem_of_getElem? (i := 216) (by decide +kernel)⟩
theorem lw_p4 : lw_okq (⟨"SeamMap$Surface", "joinSide", "()V"⟩, 6) := ⟨⟨by decide +kernel, by decide +kernel⟩, List.mem_of_getElem? (i := 20) (by decide +kernel), List.mem_of_getElem? (i := 219) (by decide +kernel), List.mem_of_getElem? (i := 220) (by decide +kernel)⟩
theorem lw_p5 : lw_okq (⟨"SeamMap$Surface", "joinEnd", "()V"⟩, 6) := ⟨⟨by decide +kernel, by decide +kernel⟩, List.mem_of_getElem? (i := 20) (by decide +kernel), List.mem_of_getElem? (i := 238) (by decide +kernel), List.mem_of_getElem? (i := 239) (by decide +kernel)⟩
theorem lw_p6 : lw_okq (⟨"SeamMap$Parts", "flood", "(I)V"⟩, 9) := ⟨⟨by decide +kernel, by decide +kernel⟩, List.mem_of_getElem? (i := 155) (by decide +kernel), List.mem_of_getElem? (i := 255) (by decide +kernel), List.mem_of_getElem? (i := 256) (by decide +kernel)⟩
theorem lw_p7 : lw_okq (⟨"SeamMap$Parts", "enter", "(IIII)V"⟩, 9) := ⟨⟨by decide +kernel, by decide +kernel⟩, List.mem_of_getElem? (i := 155) (by decide +kernel), List.mem_of_getElem? (i := 263) (by decide +kernel), List.mem_of_getElem? (i := 264) (by decide +kernel)⟩
theorem lw_p8 : lw_okq (⟨"SeamMap$Parts", "spread", "(I)V"⟩, 9) := ⟨⟨by decide +kernel, by decide +kernel⟩, List.mem_of_getElem? (i := 155) (by decide +kernel), List.mem_of_getElem? (i := 279) (by decide +kernel), List.mem_of_getElem? (i := 280) (by decide +kernel)⟩
theorem lw_p9 : lw_okq (⟨"SeamMap", "repairParts", "()V"⟩, 8) := ⟨⟨by decide +kernel, by decide +kernel⟩, List.mem_of_getElem? (i := 12) (by decide +kernel), List.mem_of_getElem? (i := 340) (by decide +kernel), List.mem_of_getElem? (i := 341) (by decide +kernel)⟩
theorem lw_p10 : lw_okq (⟨"SeamMap$History", "place", "(I)I"⟩, 3) := ⟨⟨by decide +kernel, by decide +kernel⟩, List.mem_of_getElem? (i := 137) (by decide +kernel), List.mem_of_getElem? (i := 381) (by decide +kernel), List.mem_of_getElem? (i := 382) (by decide +kernel)⟩
theorem lw_p11 : lw_okq (⟨"SeamMap$Parts", "bordersToOthers", "(I)I"⟩, 9) := ⟨⟨by decide +kernel, by decide +kernel⟩, List.mem_of_getElem? (i := 155) (by decide +kernel), List.mem_of_getElem? (i := 453) (by decide +kernel), List.mem_of_getElem? (i := 454) (by decide +kernel)⟩
theorem lw_p12 : lw_okq (⟨"SeamMap$Parts", "leadsOut", "(II)Z"⟩, 9) := ⟨⟨by decide +kernel, by decide +kernel⟩, List.mem_of_getElem? (i := 155) (by decide +kernel), List.mem_of_getElem? (i := 457) (by decide +kernel), List.mem_of_getElem? (i := 458) (by decide +kernel)⟩
theorem lw_p13 : lw_okq (⟨"SeamMap$Parts", "bordersToNothing", "(I)I"⟩, 9) := ⟨⟨by decide +kernel, by decide +kernel⟩, List.mem_of_getElem? (i := 155) (by decide +kernel), List.mem_of_getElem? (i := 461) (by decide +kernel), List.mem_of_getElem? (i := 462) (by decide +kernel)⟩
theorem lw_p14 : lw_okq (⟨"SeamMap$Parts", "loops", "(I)I"⟩, 9) := ⟨⟨by decide +kernel, by decide +kernel⟩, List.mem_of_getElem? (i := 155) (by decide +kernel), List.mem_of_getElem? (i := 465) (by decide +kernel), List.mem_of_getElem? (i := 466) (by decide +kernel)⟩
theorem lw_p15 : lw_okq (⟨"SeamMap$Parts", "loopOver", "(II)I"⟩, 9) := ⟨⟨by decide +kernel, by decide +kernel⟩, List.mem_of_getElem? (i := 155) (by decide +kernel), List.mem_of_getElem? (i := 469) (by decide +kernel), List.mem_of_getElem? (i := 470) (by decide +kernel)⟩
def lw_privs_1 : List (MethodName × Nat) := [(⟨"SeamMap", "beginAnew", "(II)V"⟩, 8), (⟨"SeamMap$Surface", "joinTiles", "()V"⟩, 6), (⟨"SeamMap$Surface", "joinInside", "()V"⟩, 6), (⟨"SeamMap$Surface", "join", "(IIII)V"⟩, 6), (⟨"SeamMap$Surface", "joinSide", "()V"⟩, 6), (⟨"SeamMap$Surface", "joinEnd", "()V"⟩, 6), (⟨"SeamMap$Parts", "flood", "(I)V"⟩, 9), (⟨"SeamMap$Parts", "enter", "(IIII)V"⟩, 9), (⟨"SeamMap$Parts", "spread", "(I)V"⟩, 9), (⟨"SeamMap", "repairParts", "()V"⟩, 8), (⟨"SeamMap$History", "place", "(I)I"⟩, 3), (⟨"SeamMap$Parts", "bordersToOthers", "(I)I"⟩, 9), (⟨"SeamMap$Parts", "leadsOut", "(II)Z"⟩, 9), (⟨"SeamMap$Parts", "bordersToNothing", "(I)I"⟩, 9), (⟨"SeamMap$Parts", "loops", "(I)I"⟩, 9), (⟨"SeamMap$Parts", "loopOver", "(II)I"⟩, 9)]
theorem lw_r1 : ∀ q ∈ lw_privs_1, lw_okq q := List.forall_mem_cons.mpr ⟨lw_p0, List.forall_mem_cons.mpr ⟨lw_p1, List.forall_mem_cons.mpr ⟨lw_p2, List.forall_mem_cons.mpr ⟨lw_p3, List.forall_mem_cons.mpr ⟨lw_p4, List.forall_mem_cons.mpr ⟨lw_p5, List.forall_mem_cons.mpr ⟨lw_p6, List.forall_mem_cons.mpr ⟨lw_p7, List.forall_mem_cons.mpr ⟨lw_p8, List.forall_mem_cons.mpr ⟨lw_p9, List.forall_mem_cons.mpr ⟨lw_p10, List.forall_mem_cons.mpr ⟨lw_p11, List.forall_mem_cons.mpr ⟨lw_p12, List.forall_mem_cons.mpr ⟨lw_p13, List.forall_mem_cons.mpr ⟨lw_p14, List.forall_mem_cons.mpr ⟨lw_p15, fun _ h => absurd h List.not_mem_nil⟩⟩⟩⟩⟩⟩⟩⟩⟩⟩⟩⟩⟩⟩⟩⟩
theorem lw_p16 : lw_okq (⟨"SeamMap$Parts", "isOneSided", "(I)Z"⟩, 9) := ⟨⟨by decide +kernel, by decide +kernel⟩, List.mem_of_getElem? (i := 155) (by decide +kernel), List.mem_of_getElem? (i := 476) (by decide +kernel), List.mem_of_getElem? (i := 477) (by decide +kernel)⟩
theorem lw_p17 : lw_okq (⟨"SeamMap$Parts", "partsBeside", "(I)I"⟩, 9) := ⟨⟨by decide +kernel, by decide +kernel⟩, List.mem_of_getElem? (i := 155) (by decide +kernel), List.mem_of_getElem? (i := 480) (by decide +kernel), List.mem_of_getElem? (i := 481) (by decide +kernel)⟩
theorem lw_p18 : lw_okq (⟨"SeamMap$Parts", "isFirstMeeting", "(I)Z"⟩, 9) := ⟨⟨by decide +kernel, by decide +kernel⟩, List.mem_of_getElem? (i := 155) (by decide +kernel), List.mem_of_getElem? (i := 484) (by decide +kernel), List.mem_of_getElem? (i := 485) (by decide +kernel)⟩
theorem lw_p19 : lw_okq (⟨"SeamMap$Parts", "greatestDepth", "(I)I"⟩, 9) := ⟨⟨by decide +kernel, by decide +kernel⟩, List.mem_of_getElem? (i := 155) (by decide +kernel), List.mem_of_getElem? (i := 488) (by decide +kernel), List.mem_of_getElem? (i := 489) (by decide +kernel)⟩
theorem lw_p20 : lw_okq (⟨"SeamMap$Ways", "reach", "(II)V"⟩, 5) := ⟨⟨by decide +kernel, by decide +kernel⟩, List.mem_of_getElem? (i := 59) (by decide +kernel), List.mem_of_getElem? (i := 516) (by decide +kernel), List.mem_of_getElem? (i := 517) (by decide +kernel)⟩
theorem lw_p21 : lw_okq (⟨"SeamMap$Ways", "takeNearestOpen", "()I"⟩, 5) := ⟨⟨by decide +kernel, by decide +kernel⟩, List.mem_of_getElem? (i := 59) (by decide +kernel), List.mem_of_getElem? (i := 522) (by decide +kernel), List.mem_of_getElem? (i := 523) (by decide +kernel)⟩
theorem lw_p22 : lw_okq (⟨"SeamMap$Ways", "spread", "(I)V"⟩, 5) := ⟨⟨by decide +kernel, by decide +kernel⟩, List.mem_of_getElem? (i := 59) (by decide +kernel), List.mem_of_getElem? (i := 531) (by decide +kernel), List.mem_of_getElem? (i := 532) (by decide +kernel)⟩
theorem lw_p23 : lw_okq (⟨"SeamMap$Ways", "stepLength", "(II)I"⟩, 5) := ⟨⟨by decide +kernel, by decide +kernel⟩, List.mem_of_getElem? (i := 59) (by decide +kernel), List.mem_of_getElem? (i := 535) (by decide +kernel), List.mem_of_getElem? (i := 536) (by decide +kernel)⟩
theorem lw_p24 : lw_okq (⟨"SeamMap$Ways", "nextOnRoute", "(I)I"⟩, 5) := ⟨⟨by decide +kernel, by decide +kernel⟩, List.mem_of_getElem? (i := 59) (by decide +kernel), List.mem_of_getElem? (i := 552) (by decide +kernel), List.mem_of_getElem? (i := 553) (by decide +kernel)⟩
theorem lw_p25 : lw_okq (⟨"SeamMap$Walker", "begin", "(II)V"⟩, 7) := ⟨⟨by decide +kernel, by decide +kernel⟩, List.mem_of_getElem? (i := 108) (by decide +kernel), List.mem_of_getElem? (i := 611) (by decide +kernel), List.mem_of_getElem? (i := 612) (by decide +kernel)⟩
theorem lw_p26 : lw_okq (⟨"SeamMap$Walker", "enter", "(I)V"⟩, 7) := ⟨⟨by decide +kernel, by decide +kernel⟩, List.mem_of_getElem? (i := 108) (by decide +kernel), List.mem_of_getElem? (i := 615) (by decide +kernel), List.mem_of_getElem? (i := 616) (by decide +kernel)⟩
theorem lw_p27 : lw_okq (⟨"SeamMap$Walker", "obey", "(C)Z"⟩, 7) := ⟨⟨by decide +kernel, by decide +kernel⟩, List.mem_of_getElem? (i := 108) (by decide +kernel), List.mem_of_getElem? (i := 627) (by decide +kernel), List.mem_of_getElem? (i := 628) (by decide +kernel)⟩
theorem lw_p28 : lw_okq (⟨"SeamMap$Walker", "step", "()Z"⟩, 7) := ⟨⟨by decide +kernel, by decide +kernel⟩, List.mem_of_getElem? (i := 108) (by decide +kernel), List.mem_of_getElem? (i := 631) (by decide +kernel), List.mem_of_getElem? (i := 632) (by decide +kernel)⟩
theorem lw_p29 : lw_okq (⟨"SeamMap$Walker", "turn", "(Z)V"⟩, 7) := ⟨⟨by decide +kernel, by decide +kernel⟩, List.mem_of_getElem? (i := 108) (by decide +kernel), List.mem_of_getElem? (i := 637) (by decide +kernel), List.mem_of_getElem? (i := 638) (by decide +kernel)⟩
theorem lw_p30 : lw_okq (⟨"SeamMap", "giveKindToPart", "(II)V"⟩, 8) := ⟨⟨by decide +kernel, by decide +kernel⟩, List.mem_of_getElem? (i := 12) (by decide +kernel), List.mem_of_getElem? (i := 673) (by decide +kernel), List.mem_of_getElem? (i := 674) (by decide +kernel)⟩
theorem lw_p31 : lw_okq (⟨"SeamMap", "takeKindsFromText", "()I"⟩, 8) := ⟨⟨by decide +kernel, by decide +kernel⟩, List.mem_of_getElem? (i := 12) (by decide +kernel), List.mem_of_getElem? (i := 692) (by decide +kernel), List.mem_of_getElem? (i := 693) (by decide +kernel)⟩
def lw_privs_2 : List (MethodName × Nat) := [(⟨"SeamMap$Parts", "isOneSided", "(I)Z"⟩, 9), (⟨"SeamMap$Parts", "partsBeside", "(I)I"⟩, 9), (⟨"SeamMap$Parts", "isFirstMeeting", "(I)Z"⟩, 9), (⟨"SeamMap$Parts", "greatestDepth", "(I)I"⟩, 9), (⟨"SeamMap$Ways", "reach", "(II)V"⟩, 5), (⟨"SeamMap$Ways", "takeNearestOpen", "()I"⟩, 5), (⟨"SeamMap$Ways", "spread", "(I)V"⟩, 5), (⟨"SeamMap$Ways", "stepLength", "(II)I"⟩, 5), (⟨"SeamMap$Ways", "nextOnRoute", "(I)I"⟩, 5), (⟨"SeamMap$Walker", "begin", "(II)V"⟩, 7), (⟨"SeamMap$Walker", "enter", "(I)V"⟩, 7), (⟨"SeamMap$Walker", "obey", "(C)Z"⟩, 7), (⟨"SeamMap$Walker", "step", "()Z"⟩, 7), (⟨"SeamMap$Walker", "turn", "(Z)V"⟩, 7), (⟨"SeamMap", "giveKindToPart", "(II)V"⟩, 8), (⟨"SeamMap", "takeKindsFromText", "()I"⟩, 8)]
theorem lw_r2 : ∀ q ∈ lw_privs_2, lw_okq q := List.forall_mem_cons.mpr ⟨lw_p16, List.forall_mem_cons.mpr ⟨lw_p17, List.forall_mem_cons.mpr ⟨lw_p18, List.forall_mem_cons.mpr ⟨lw_p19, List.forall_mem_cons.mpr ⟨lw_p20, List.forall_mem_cons.mpr ⟨lw_p21, List.forall_mem_cons.mpr ⟨lw_p22, List.forall_mem_cons.mpr ⟨lw_p23, List.forall_mem_cons.mpr ⟨lw_p24, List.forall_mem_cons.mpr ⟨lw_p25, List.forall_mem_cons.mpr ⟨lw_p26, List.forall_mem_cons.mpr ⟨lw_p27, List.forall_mem_cons.mpr ⟨lw_p28, List.forall_mem_cons.mpr ⟨lw_p29, List.forall_mem_cons.mpr ⟨lw_p30, List.forall_mem_cons.mpr ⟨lw_p31, fun _ h => absurd h List.not_mem_nil⟩⟩⟩⟩⟩⟩⟩⟩⟩⟩⟩⟩⟩⟩⟩⟩
def lw_privs : List (MethodName × Nat) := lw_privs_1 ++ (lw_privs_2)
def lw_tbl : List Cond := k2_sels lw_privs ++ tables_1
theorem lw_privs_ok : ∀ q ∈ lw_privs, lw_okq q := by
  show ∀ q ∈ lw_privs_1 ++ (lw_privs_2), lw_okq q
  exact List.forall_mem_append.mpr ⟨lw_r1, lw_r2⟩
def RX0 : String := "SeamMap$History"
def TX0 : u_T := fun k => match k with
  | 0 => ("SeamMap$History", "maps", "[[I", true)
  | 1 => ("SeamMap$History", "oldest", "I", false)
  | _ => ("SeamMap$History", "size", "I", false)
def tyX0 : Nat → FieldType := fun k => match k with
  | 0 => .array (.array .int)
  | 1 => .int
  | _ => .int
abbrev wsX00 : List Cond := u_ws RX0 TX0 3
theorem nmX0 : ∀ a, a < 3 → ∀ b, b < 3 → a ≠ b → (TX0 a).2.1 ≠ (TX0 b).2.1 := by decide +kernel
theorem tyX0_ok : ∀ k, k < 3 → parseFieldDescriptor (TX0 k).2.2.1 = some (tyX0 k) := by decide +kernel
abbrev cX0_init : ByteArray := prog_2_method_1_code
def yX0_init : MethodName := ⟨RX0, "<init>", "()V"⟩
abbrev cX0_size : ByteArray := prog_2_method_2_code
def yX0_size : MethodName := ⟨RX0, "size", "()I"⟩
abbrev cX0_forget : ByteArray := prog_2_method_3_code
def yX0_forget : MethodName := ⟨RX0, "forget", "()V"⟩
abbrev cX0_record : ByteArray := prog_2_method_4_code
def yX0_record : MethodName := ⟨RX0, "record", "([I)V"⟩
abbrev cX0_restore : ByteArray := prog_2_method_5_code
def yX0_restore : MethodName := ⟨RX0, "restore", "([I)V"⟩
abbrev cX0_place : ByteArray := prog_2_method_6_code
def yX0_place : MethodName := ⟨RX0, "place", "(I)I"⟩
def RX1 : String := "SeamMap$Parts"
def TX1 : u_T := fun k => match k with
  | 0 => ("SeamMap$Parts", "surface", "LSeamMap$Surface;", true)
  | 1 => ("SeamMap$Parts", "kinds", "[I", true)
  | 2 => ("SeamMap$Parts", "labels", "[I", true)
  | 3 => ("SeamMap$Parts", "sizes", "[I", true)
  | 4 => ("SeamMap$Parts", "depths", "[I", true)
  | 5 => ("SeamMap$Parts", "crossed", "[I", true)
  | 6 => ("SeamMap$Parts", "met", "[Z", true)
  | 7 => ("SeamMap$Parts", "flooded", "LSeamMap$TileList;", true)
  | _ => ("SeamMap$Parts", "number", "I", false)
def tyX1 : Nat → FieldType := fun k => match k with
  | 0 => .object "SeamMap$Surface"
  | 1 => .array .int
  | 2 => .array .int
  | 3 => .array .int
  | 4 => .array .int
  | 5 => .array .int
  | 6 => .array .boolean
  | 7 => .object "SeamMap$TileList"
  | _ => .int
abbrev wsX10 : List Cond := u_ws RX1 TX1 9
theorem nmX1 : ∀ a, a < 9 → ∀ b, b < 9 → a ≠ b → (TX1 a).2.1 ≠ (TX1 b).2.1 := by decide +kernel
theorem tyX1_ok : ∀ k, k < 9 → parseFieldDescriptor (TX1 k).2.2.1 = some (tyX1 k) := by decide +kernel
abbrev cX1_init : ByteArray := prog_3_method_1_code
def yX1_init : MethodName := ⟨RX1, "<init>", "(LSeamMap$Surface;[I)V"⟩
abbrev cX1_number : ByteArray := prog_3_method_2_code
def yX1_number : MethodName := ⟨RX1, "number", "()I"⟩
abbrev cX1_labelOf : ByteArray := prog_3_method_3_code
def yX1_labelOf : MethodName := ⟨RX1, "labelOf", "(I)I"⟩
abbrev cX1_sizeOf : ByteArray := prog_3_method_4_code
def yX1_sizeOf : MethodName := ⟨RX1, "sizeOf", "(I)I"⟩
abbrev cX1_find : ByteArray := prog_3_method_5_code
def yX1_find : MethodName := ⟨RX1, "find", "()V"⟩
abbrev cX1_flood : ByteArray := prog_3_method_6_code
def yX1_flood : MethodName := ⟨RX1, "flood", "(I)V"⟩
abbrev cX1_enter : ByteArray := prog_3_method_7_code
def yX1_enter : MethodName := ⟨RX1, "enter", "(IIII)V"⟩
abbrev cX1_spread : ByteArray := prog_3_method_8_code
def yX1_spread : MethodName := ⟨RX1, "spread", "(I)V"⟩
abbrev cX1_changesSince : ByteArray := prog_3_method_9_code
def yX1_changesSince : MethodName := ⟨RX1, "changesSince", "(LSeamMap$Parts;I)I"⟩
abbrev cX1_labelNumber : ByteArray := prog_3_method_10_code
def yX1_labelNumber : MethodName := ⟨RX1, "labelNumber", "(I)I"⟩
abbrev cX1_greatestOf : ByteArray := prog_3_method_11_code
def yX1_greatestOf : MethodName := ⟨RX1, "greatestOf", "(I)I"⟩
abbrev cX1_property : ByteArray := prog_3_method_12_code
def yX1_property : MethodName := ⟨RX1, "property", "(II)I"⟩
abbrev cX1_leadsOut : ByteArray := prog_3_method_13_code
def yX1_leadsOut : MethodName := ⟨RX1, "leadsOut", "(II)Z"⟩
abbrev cX1_bordersToOthers : ByteArray := prog_3_method_14_code
def yX1_bordersToOthers : MethodName := ⟨RX1, "bordersToOthers", "(I)I"⟩
abbrev cX1_bordersToNothing : ByteArray := prog_3_method_15_code
def yX1_bordersToNothing : MethodName := ⟨RX1, "bordersToNothing", "(I)I"⟩
abbrev cX1_loopOver : ByteArray := prog_3_method_16_code
def yX1_loopOver : MethodName := ⟨RX1, "loopOver", "(II)I"⟩
abbrev cX1_loops : ByteArray := prog_3_method_17_code
def yX1_loops : MethodName := ⟨RX1, "loops", "(I)I"⟩
abbrev cX1_withLoop : ByteArray := prog_3_method_18_code
def yX1_withLoop : MethodName := ⟨RX1, "withLoop", "(II)I"⟩
abbrev cX1_isOneSided : ByteArray := prog_3_method_19_code
def yX1_isOneSided : MethodName := ⟨RX1, "isOneSided", "(I)Z"⟩
abbrev cX1_partsBeside : ByteArray := prog_3_method_20_code
def yX1_partsBeside : MethodName := ⟨RX1, "partsBeside", "(I)I"⟩
abbrev cX1_isFirstMeeting : ByteArray := prog_3_method_21_code
def yX1_isFirstMeeting : MethodName := ⟨RX1, "isFirstMeeting", "(I)Z"⟩
abbrev cX1_greatestDepth : ByteArray := prog_3_method_22_code
def yX1_greatestDepth : MethodName := ⟨RX1, "greatestDepth", "(I)I"⟩
def RX2 : String := "SeamMap$Seam"
def TX2 : u_T := fun k => match k with
  | 0 => ("SeamMap$Seam", "style", "I", false)
  | _ => ("SeamMap$Seam", "offset", "I", false)
def tyX2 : Nat → FieldType := fun k => match k with
  | 0 => .int
  | _ => .int
abbrev wsX20 : List Cond := u_ws RX2 TX2 2
theorem nmX2 : ∀ a, a < 2 → ∀ b, b < 2 → a ≠ b → (TX2 a).2.1 ≠ (TX2 b).2.1 := by decide +kernel
theorem tyX2_ok : ∀ k, k < 2 → parseFieldDescriptor (TX2 k).2.2.1 = some (tyX2 k) := by decide +kernel
abbrev cX2_init : ByteArray := prog_4_method_1_code
def yX2_init : MethodName := ⟨RX2, "<init>", "()V"⟩
abbrev cX2_style : ByteArray := prog_4_method_2_code
def yX2_style : MethodName := ⟨RX2, "style", "()I"⟩
abbrev cX2_offset : ByteArray := prog_4_method_3_code
def yX2_offset : MethodName := ⟨RX2, "offset", "()I"⟩
abbrev cX2_change : ByteArray := prog_4_method_4_code
def yX2_change : MethodName := ⟨RX2, "change", "(II)Z"⟩
abbrev cX2_crossing : ByteArray := prog_4_method_5_code
def yX2_crossing : MethodName := ⟨RX2, "crossing", "(I)I"⟩
abbrev cX2_placeBeyond : ByteArray := prog_4_method_6_code
def yX2_placeBeyond : MethodName := ⟨RX2, "placeBeyond", "(II)I"⟩
abbrev cX2_modulo : ByteArray := prog_4_method_7_code
def yX2_modulo : MethodName := ⟨RX2, "modulo", "(II)I"⟩
def RX3 : String := "SeamMap$Surface"
def TX3 : u_T := fun k => match k with
  | 0 => ("SeamMap$Surface", "side", "LSeamMap$Seam;", true)
  | 1 => ("SeamMap$Surface", "end", "LSeamMap$Seam;", true)
  | 2 => ("SeamMap$Surface", "nexts", "[I", true)
  | 3 => ("SeamMap$Surface", "crossings", "[I", true)
  | 4 => ("SeamMap$Surface", "columns", "I", false)
  | _ => ("SeamMap$Surface", "rows", "I", false)
def tyX3 : Nat → FieldType := fun k => match k with
  | 0 => .object "SeamMap$Seam"
  | 1 => .object "SeamMap$Seam"
  | 2 => .array .int
  | 3 => .array .int
  | 4 => .int
  | _ => .int
abbrev wsX30 : List Cond := u_ws RX3 TX3 6
theorem nmX3 : ∀ a, a < 6 → ∀ b, b < 6 → a ≠ b → (TX3 a).2.1 ≠ (TX3 b).2.1 := by decide +kernel
theorem tyX3_ok : ∀ k, k < 6 → parseFieldDescriptor (TX3 k).2.2.1 = some (tyX3 k) := by decide +kernel
abbrev cX3_init : ByteArray := prog_5_method_1_code
def yX3_init : MethodName := ⟨RX3, "<init>", "()V"⟩
abbrev cX3_columns : ByteArray := prog_5_method_2_code
def yX3_columns : MethodName := ⟨RX3, "columns", "()I"⟩
abbrev cX3_rows : ByteArray := prog_5_method_3_code
def yX3_rows : MethodName := ⟨RX3, "rows", "()I"⟩
abbrev cX3_tiles : ByteArray := prog_5_method_4_code
def yX3_tiles : MethodName := ⟨RX3, "tiles", "()I"⟩
abbrev cX3_sideSeam : ByteArray := prog_5_method_5_code
def yX3_sideSeam : MethodName := ⟨RX3, "sideSeam", "()LSeamMap$Seam;"⟩
abbrev cX3_endSeam : ByteArray := prog_5_method_6_code
def yX3_endSeam : MethodName := ⟨RX3, "endSeam", "()LSeamMap$Seam;"⟩
abbrev cX3_has : ByteArray := prog_5_method_7_code
def yX3_has : MethodName := ⟨RX3, "has", "(I)Z"⟩
abbrev cX3_next : ByteArray := prog_5_method_8_code
def yX3_next : MethodName := ⟨RX3, "next", "(II)I"⟩
abbrev cX3_crossing : ByteArray := prog_5_method_9_code
def yX3_crossing : MethodName := ⟨RX3, "crossing", "(II)I"⟩
abbrev cX3_openBorders : ByteArray := prog_5_method_10_code
def yX3_openBorders : MethodName := ⟨RX3, "openBorders", "()I"⟩
abbrev cX3_begin : ByteArray := prog_5_method_11_code
def yX3_begin : MethodName := ⟨RX3, "begin", "(II)V"⟩
abbrev cX3_changeSeam : ByteArray := prog_5_method_12_code
def yX3_changeSeam : MethodName := ⟨RX3, "changeSeam", "(ZII)Z"⟩
abbrev cX3_joinTiles : ByteArray := prog_5_method_13_code
def yX3_joinTiles : MethodName := ⟨RX3, "joinTiles", "()V"⟩
abbrev cX3_joinInside : ByteArray := prog_5_method_14_code
def yX3_joinInside : MethodName := ⟨RX3, "joinInside", "()V"⟩
abbrev cX3_joinSide : ByteArray := prog_5_method_15_code
def yX3_joinSide : MethodName := ⟨RX3, "joinSide", "()V"⟩
abbrev cX3_joinEnd : ByteArray := prog_5_method_16_code
def yX3_joinEnd : MethodName := ⟨RX3, "joinEnd", "()V"⟩
abbrev cX3_join : ByteArray := prog_5_method_17_code
def yX3_join : MethodName := ⟨RX3, "join", "(IIII)V"⟩
def RX4 : String := "SeamMap$Text"
def TX4 : u_T := fun k => match k with
  | 0 => ("SeamMap$Text", "characters", "[C", true)
  | _ => ("SeamMap$Text", "length", "I", false)
def tyX4 : Nat → FieldType := fun k => match k with
  | 0 => .array .char
  | _ => .int
abbrev wsX40 : List Cond := u_ws RX4 TX4 2
theorem nmX4 : ∀ a, a < 2 → ∀ b, b < 2 → a ≠ b → (TX4 a).2.1 ≠ (TX4 b).2.1 := by decide +kernel
theorem tyX4_ok : ∀ k, k < 2 → parseFieldDescriptor (TX4 k).2.2.1 = some (tyX4 k) := by decide +kernel
abbrev cX4_init : ByteArray := prog_6_method_1_code
def yX4_init : MethodName := ⟨RX4, "<init>", "()V"⟩
abbrev cX4_length : ByteArray := prog_6_method_2_code
def yX4_length : MethodName := ⟨RX4, "length", "()I"⟩
abbrev cX4_at : ByteArray := prog_6_method_3_code
def yX4_at : MethodName := ⟨RX4, "at", "(I)C"⟩
abbrev cX4_append : ByteArray := prog_6_method_4_code
def yX4_append : MethodName := ⟨RX4, "append", "(C)I"⟩
abbrev cX4_empty : ByteArray := prog_6_method_5_code
def yX4_empty : MethodName := ⟨RX4, "empty", "()I"⟩
abbrev cX4_faultAsTiles : ByteArray := prog_6_method_6_code
def yX4_faultAsTiles : MethodName := ⟨RX4, "faultAsTiles", "(II)I"⟩
abbrev cX4_isFitting : ByteArray := prog_6_method_7_code
def yX4_isFitting : MethodName := ⟨RX4, "isFitting", "(CZ)Z"⟩
abbrev cX4_kindAt : ByteArray := prog_6_method_8_code
def yX4_kindAt : MethodName := ⟨RX4, "kindAt", "(III)I"⟩
abbrev cX4_faultAsWalk : ByteArray := prog_6_method_9_code
def yX4_faultAsWalk : MethodName := ⟨RX4, "faultAsWalk", "()I"⟩
def RX5 : String := "SeamMap$TileList"
def TX5 : u_T := fun k => match k with
  | 0 => ("SeamMap$TileList", "tiles", "[I", true)
  | _ => ("SeamMap$TileList", "number", "I", false)
def tyX5 : Nat → FieldType := fun k => match k with
  | 0 => .array .int
  | _ => .int
abbrev wsX50 : List Cond := u_ws RX5 TX5 2
theorem nmX5 : ∀ a, a < 2 → ∀ b, b < 2 → a ≠ b → (TX5 a).2.1 ≠ (TX5 b).2.1 := by decide +kernel
theorem tyX5_ok : ∀ k, k < 2 → parseFieldDescriptor (TX5 k).2.2.1 = some (tyX5 k) := by decide +kernel
abbrev cX5_init : ByteArray := prog_7_method_1_code
def yX5_init : MethodName := ⟨RX5, "<init>", "()V"⟩
abbrev cX5_number : ByteArray := prog_7_method_2_code
def yX5_number : MethodName := ⟨RX5, "number", "()I"⟩
abbrev cX5_at : ByteArray := prog_7_method_3_code
def yX5_at : MethodName := ⟨RX5, "at", "(I)I"⟩
abbrev cX5_clear : ByteArray := prog_7_method_4_code
def yX5_clear : MethodName := ⟨RX5, "clear", "()V"⟩
abbrev cX5_add : ByteArray := prog_7_method_5_code
def yX5_add : MethodName := ⟨RX5, "add", "(I)V"⟩
abbrev cX5_takeOut : ByteArray := prog_7_method_6_code
def yX5_takeOut : MethodName := ⟨RX5, "takeOut", "(I)I"⟩
def RX6 : String := "SeamMap$Walker"
def TX6 : u_T := fun k => match k with
  | 0 => ("SeamMap$Walker", "surface", "LSeamMap$Surface;", true)
  | 1 => ("SeamMap$Walker", "entered", "[Z", true)
  | 2 => ("SeamMap$Walker", "tile", "I", false)
  | 3 => ("SeamMap$Walker", "heading", "I", false)
  | 4 => ("SeamMap$Walker", "side", "I", false)
  | 5 => ("SeamMap$Walker", "steps", "I", false)
  | _ => ("SeamMap$Walker", "differentTiles", "I", false)
def tyX6 : Nat → FieldType := fun k => match k with
  | 0 => .object "SeamMap$Surface"
  | 1 => .array .boolean
  | 2 => .int
  | 3 => .int
  | 4 => .int
  | 5 => .int
  | _ => .int
abbrev wsX60 : List Cond := u_ws RX6 TX6 7
theorem nmX6 : ∀ a, a < 7 → ∀ b, b < 7 → a ≠ b → (TX6 a).2.1 ≠ (TX6 b).2.1 := by decide +kernel
theorem tyX6_ok : ∀ k, k < 7 → parseFieldDescriptor (TX6 k).2.2.1 = some (tyX6 k) := by decide +kernel
abbrev cX6_init : ByteArray := prog_8_method_1_code
def yX6_init : MethodName := ⟨RX6, "<init>", "(LSeamMap$Surface;)V"⟩
abbrev cX6_follow : ByteArray := prog_8_method_2_code
def yX6_follow : MethodName := ⟨RX6, "follow", "(LSeamMap$Text;II)V"⟩
abbrev cX6_begin : ByteArray := prog_8_method_3_code
def yX6_begin : MethodName := ⟨RX6, "begin", "(II)V"⟩
abbrev cX6_obey : ByteArray := prog_8_method_4_code
def yX6_obey : MethodName := ⟨RX6, "obey", "(C)Z"⟩
abbrev cX6_step : ByteArray := prog_8_method_5_code
def yX6_step : MethodName := ⟨RX6, "step", "()Z"⟩
abbrev cX6_enter : ByteArray := prog_8_method_6_code
def yX6_enter : MethodName := ⟨RX6, "enter", "(I)V"⟩
abbrev cX6_turn : ByteArray := prog_8_method_7_code
def yX6_turn : MethodName := ⟨RX6, "turn", "(Z)V"⟩
abbrev cX6_tell : ByteArray := prog_8_method_8_code
def yX6_tell : MethodName := ⟨RX6, "tell", "(I)I"⟩
def RX7 : String := "SeamMap$Ways"
def TX7 : u_T := fun k => match k with
  | 0 => ("SeamMap$Ways", "surface", "LSeamMap$Surface;", true)
  | 1 => ("SeamMap$Ways", "kinds", "[I", true)
  | 2 => ("SeamMap$Ways", "weights", "[I", true)
  | 3 => ("SeamMap$Ways", "lengths", "[I", true)
  | _ => ("SeamMap$Ways", "open", "LSeamMap$TileList;", true)
def tyX7 : Nat → FieldType := fun k => match k with
  | 0 => .object "SeamMap$Surface"
  | 1 => .array .int
  | 2 => .array .int
  | 3 => .array .int
  | _ => .object "SeamMap$TileList"
abbrev wsX70 : List Cond := u_ws RX7 TX7 5
theorem nmX7 : ∀ a, a < 5 → ∀ b, b < 5 → a ≠ b → (TX7 a).2.1 ≠ (TX7 b).2.1 := by decide +kernel
theorem tyX7_ok : ∀ k, k < 5 → parseFieldDescriptor (TX7 k).2.2.1 = some (tyX7 k) := by decide +kernel
abbrev cX7_init : ByteArray := prog_9_method_1_code
def yX7_init : MethodName := ⟨RX7, "<init>", "(LSeamMap$Surface;[I)V"⟩
abbrev cX7_levelWeights : ByteArray := prog_9_method_2_code
def yX7_levelWeights : MethodName := ⟨RX7, "levelWeights", "()V"⟩
abbrev cX7_changeWeight : ByteArray := prog_9_method_3_code
def yX7_changeWeight : MethodName := ⟨RX7, "changeWeight", "(II)I"⟩
abbrev cX7_lengthTo : ByteArray := prog_9_method_4_code
def yX7_lengthTo : MethodName := ⟨RX7, "lengthTo", "(I)I"⟩
abbrev cX7_measureFrom : ByteArray := prog_9_method_5_code
def yX7_measureFrom : MethodName := ⟨RX7, "measureFrom", "(I)V"⟩
abbrev cX7_takeNearestOpen : ByteArray := prog_9_method_6_code
def yX7_takeNearestOpen : MethodName := ⟨RX7, "takeNearestOpen", "()I"⟩
abbrev cX7_spread : ByteArray := prog_9_method_7_code
def yX7_spread : MethodName := ⟨RX7, "spread", "(I)V"⟩
abbrev cX7_reach : ByteArray := prog_9_method_8_code
def yX7_reach : MethodName := ⟨RX7, "reach", "(II)V"⟩
abbrev cX7_stepLength : ByteArray := prog_9_method_9_code
def yX7_stepLength : MethodName := ⟨RX7, "stepLength", "(II)I"⟩
abbrev cX7_routeTile : ByteArray := prog_9_method_10_code
def yX7_routeTile : MethodName := ⟨RX7, "routeTile", "(III)I"⟩
abbrev cX7_nextOnRoute : ByteArray := prog_9_method_11_code
def yX7_nextOnRoute : MethodName := ⟨RX7, "nextOnRoute", "(I)I"⟩
abbrev cX7_farthestTile : ByteArray := prog_9_method_12_code
def yX7_farthestTile : MethodName := ⟨RX7, "farthestTile", "(I)I"⟩
abbrev cX7_tilesUpTo : ByteArray := prog_9_method_13_code
def yX7_tilesUpTo : MethodName := ⟨RX7, "tilesUpTo", "(I)I"⟩
abbrev cX7_nearestOf : ByteArray := prog_9_method_14_code
def yX7_nearestOf : MethodName := ⟨RX7, "nearestOf", "(I)I"⟩
def RX8 : String := "SeamMap"
def TX8 : u_T := fun k => match k with
  | 0 => ("SeamMap", "surface", "LSeamMap$Surface;", true)
  | 1 => ("SeamMap", "kinds", "[I", true)
  | 2 => ("SeamMap", "ways", "LSeamMap$Ways;", true)
  | 3 => ("SeamMap", "text", "LSeamMap$Text;", true)
  | 4 => ("SeamMap", "walker", "LSeamMap$Walker;", true)
  | 5 => ("SeamMap", "history", "LSeamMap$History;", true)
  | 6 => ("SeamMap", "parts", "LSeamMap$Parts;", false)
  | _ => ("SeamMap", "otherParts", "LSeamMap$Parts;", false)
def tyX8 : Nat → FieldType := fun k => match k with
  | 0 => .object "SeamMap$Surface"
  | 1 => .array .int
  | 2 => .object "SeamMap$Ways"
  | 3 => .object "SeamMap$Text"
  | 4 => .object "SeamMap$Walker"
  | 5 => .object "SeamMap$History"
  | 6 => .object "SeamMap$Parts"
  | _ => .object "SeamMap$Parts"
abbrev wsX80 : List Cond := u_ws RX8 TX8 8
theorem nmX8 : ∀ a, a < 8 → ∀ b, b < 8 → a ≠ b → (TX8 a).2.1 ≠ (TX8 b).2.1 := by decide +kernel
theorem tyX8_ok : ∀ k, k < 8 → parseFieldDescriptor (TX8 k).2.2.1 = some (tyX8 k) := by decide +kernel
abbrev cX8_init : ByteArray := prog_1_method_1_code
def yX8_init : MethodName := ⟨RX8, "<init>", "()V"⟩
abbrev cX8_reset : ByteArray := prog_1_method_2_code
def yX8_reset : MethodName := ⟨RX8, "reset", "(II)I"⟩
abbrev cX8_setSeam : ByteArray := prog_1_method_3_code
def yX8_setSeam : MethodName := ⟨RX8, "setSeam", "(ZII)I"⟩
abbrev cX8_value : ByteArray := prog_1_method_4_code
def yX8_value : MethodName := ⟨RX8, "value", "(I)I"⟩
abbrev cX8_kind : ByteArray := prog_1_method_5_code
def yX8_kind : MethodName := ⟨RX8, "kind", "(I)I"⟩
abbrev cX8_neighbour : ByteArray := prog_1_method_6_code
def yX8_neighbour : MethodName := ⟨RX8, "neighbour", "(II)I"⟩
abbrev cX8_type : ByteArray := prog_1_method_7_code
def yX8_type : MethodName := ⟨RX8, "type", "(C)I"⟩
abbrev cX8_clearText : ByteArray := prog_1_method_8_code
def yX8_clearText : MethodName := ⟨RX8, "clearText", "()I"⟩
abbrev cX8_readTiles : ByteArray := prog_1_method_9_code
def yX8_readTiles : MethodName := ⟨RX8, "readTiles", "()I"⟩
abbrev cX8_walk : ByteArray := prog_1_method_10_code
def yX8_walk : MethodName := ⟨RX8, "walk", "(III)I"⟩
abbrev cX8_setTile : ByteArray := prog_1_method_11_code
def yX8_setTile : MethodName := ⟨RX8, "setTile", "(II)I"⟩
abbrev cX8_fill : ByteArray := prog_1_method_12_code
def yX8_fill : MethodName := ⟨RX8, "fill", "(II)I"⟩
abbrev cX8_undo : ByteArray := prog_1_method_13_code
def yX8_undo : MethodName := ⟨RX8, "undo", "()I"⟩
abbrev cX8_label : ByteArray := prog_1_method_14_code
def yX8_label : MethodName := ⟨RX8, "label", "(I)I"⟩
abbrev cX8_part : ByteArray := prog_1_method_15_code
def yX8_part : MethodName := ⟨RX8, "part", "(I)I"⟩
abbrev cX8_ofPart : ByteArray := prog_1_method_16_code
def yX8_ofPart : MethodName := ⟨RX8, "ofPart", "(II)I"⟩
abbrev cX8_greatestPart : ByteArray := prog_1_method_17_code
def yX8_greatestPart : MethodName := ⟨RX8, "greatestPart", "(I)I"⟩
abbrev cX8_partsIf : ByteArray := prog_1_method_18_code
def yX8_partsIf : MethodName := ⟨RX8, "partsIf", "(II)I"⟩
abbrev cX8_setWeight : ByteArray := prog_1_method_19_code
def yX8_setWeight : MethodName := ⟨RX8, "setWeight", "(II)I"⟩
abbrev cX8_distance : ByteArray := prog_1_method_20_code
def yX8_distance : MethodName := ⟨RX8, "distance", "(II)I"⟩
abbrev cX8_route : ByteArray := prog_1_method_21_code
def yX8_route : MethodName := ⟨RX8, "route", "(III)I"⟩
abbrev cX8_farthest : ByteArray := prog_1_method_22_code
def yX8_farthest : MethodName := ⟨RX8, "farthest", "(I)I"⟩
abbrev cX8_within : ByteArray := prog_1_method_23_code
def yX8_within : MethodName := ⟨RX8, "within", "(II)I"⟩
abbrev cX8_nearest : ByteArray := prog_1_method_24_code
def yX8_nearest : MethodName := ⟨RX8, "nearest", "(II)I"⟩
abbrev cX8_isSize : ByteArray := prog_1_method_25_code
def yX8_isSize : MethodName := ⟨RX8, "isSize", "(I)Z"⟩
abbrev cX8_isKind : ByteArray := prog_1_method_26_code
def yX8_isKind : MethodName := ⟨RX8, "isKind", "(I)Z"⟩
abbrev cX8_isDirection : ByteArray := prog_1_method_27_code
def yX8_isDirection : MethodName := ⟨RX8, "isDirection", "(I)Z"⟩
abbrev cX8_beginAnew : ByteArray := prog_1_method_28_code
def yX8_beginAnew : MethodName := ⟨RX8, "beginAnew", "(II)V"⟩
abbrev cX8_repairParts : ByteArray := prog_1_method_29_code
def yX8_repairParts : MethodName := ⟨RX8, "repairParts", "()V"⟩
abbrev cX8_takeKindsFromText : ByteArray := prog_1_method_30_code
def yX8_takeKindsFromText : MethodName := ⟨RX8, "takeKindsFromText", "()I"⟩
abbrev cX8_giveKindToPart : ByteArray := prog_1_method_31_code
def yX8_giveKindToPart : MethodName := ⟨RX8, "giveKindToPart", "(II)V"⟩
def RL : String := "SeamMapLaw"
abbrev cL_cell : ByteArray := method_2_code
def yL_cell : MethodName := ⟨RL, "cell", "([II)I"⟩
abbrev cL_low : ByteArray := method_3_code
def yL_low : MethodName := ⟨RL, "low", "(II)I"⟩
abbrev cL_steps : ByteArray := method_4_code
def yL_steps : MethodName := ⟨RL, "steps", "(LSeamMap;)Z"⟩
abbrev cL_parts : ByteArray := method_5_code
def yL_parts : MethodName := ⟨RL, "parts", "(LSeamMap;)Z"⟩
abbrev cL_greatest : ByteArray := method_6_code
def yL_greatest : MethodName := ⟨RL, "greatest", "(LSeamMap;I)Z"⟩
abbrev cL_distances : ByteArray := method_7_code
def yL_distances : MethodName := ⟨RL, "distances", "(LSeamMap;[IIII)Z"⟩
abbrev cL_print : ByteArray := method_8_code
def yL_print : MethodName := ⟨RL, "print", "(LSeamMap;)J"⟩
abbrev cL_walks : ByteArray := method_9_code
def yL_walks : MethodName := ⟨RL, "walks", "(LSeamMap;IIII)Z"⟩
abbrev cL_edits : ByteArray := method_10_code
def yL_edits : MethodName := ⟨RL, "edits", "(LSeamMap;III)I"⟩
abbrev cL_errors : ByteArray := method_11_code
def yL_errors : MethodName := ⟨RL, "errors", "(LSeamMap;)Z"⟩
abbrev cL_law : ByteArray := code
def yL_law : MethodName := ⟨RL, "law", "([I)Z"⟩
abbrev vwCl : List vw_C := [(RX0, TX0, 3), (RX1, TX1, 9), (RX2, TX2, 2), (RX3, TX3, 6), (RX4, TX4, 2), (RX5, TX5, 2), (RX6, TX6, 7), (RX7, TX7, 5), (RX8, TX8, 8)]
/-! tables of the program: the decoded instructions of a method, the links of a class -/
def wtb : List Cond := lw_tbl.filter goodWord
theorem wtb_in {w : Cond} (h : w ∈ lw_tbl) (g : goodWord w = true) : w ∈ wtb := List.mem_filter.mpr ⟨h, g⟩
theorem wtb_good {big : List Cond} (hb : ∀ w ∈ wtb, w ∈ big) : GoodIn big wtb := fun w h => ⟨hb w h, good_of_word (List.mem_filter.mp h).2⟩
/-- a jump's target, a constant's range -/
def tgOK (pc : Nat) (i : Instr) (ts : List Nat) : Bool := match i with
  | .goto o => (match ts with | [t] => decide ((pc : Int) + o = (t : Int)) | _ => false)
  | .ifCond _ o => (match ts with | [t] => decide ((pc : Int) + o = (t : Int)) | _ => false)
  | .if_icmp _ o => (match ts with | [t] => decide ((pc : Int) + o = (t : Int)) | _ => false)
  | .tableswitch d lo hi os => (match ts with | t :: us => decide ((pc : Int) + d = (t : Int)) && decide (hi = lo + us.length - 1) && decide (-100 ≤ lo) && decide (us.length ≤ 100) && decide (os.toList = us.map (fun (u : Nat) => (u : Int) - (pc : Int))) | _ => false)
  | .iconst v => decide (-1 ≤ v) && decide (v ≤ 5)
  | .bipush v => decide (-128 ≤ v) && decide (v ≤ 127)
  | .sipush v => decide (-32768 ≤ v) && decide (v ≤ 32767)
  | .iinc _ v => decide (-32768 ≤ v) && decide (v ≤ 32767)
  | _ => true
abbrev TB : Type := List (Nat × Instr × Nat × List Nat)
def tbOK (code : ByteArray) (tb : TB) : Bool := tb.all fun q => decide (decode code q.1 = .ok (q.2.1, q.2.2.1)) && tgOK q.1 q.2.1 q.2.2.2
/-- field links of a class: pool number, class, field, place of the word -/
def ftOK (own : String) (ft : List (Nat × Nat × Nat × Nat)) : Bool := ft.all fun q => match vwCl[q.2.1]? with
  | some (C, T, N) => decide (q.2.2.1 < N) && decide (lw_tbl[q.2.2.2]? = some (.fieldLink own q.1 C (T q.2.2.1).2.1 (T q.2.2.1).2.2.1)) && decide ((T q.2.2.1).1 = C)
  | none => false
theorem mem_at {w : Cond} (i : Nat) (h : lw_tbl[i]? = some w) : w ∈ lw_tbl := List.mem_of_getElem? h
