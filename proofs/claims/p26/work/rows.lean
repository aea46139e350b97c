section
-- ===== PART A: goes FIRST, ahead of the names: the tables' words, and 'selects' of the private methods out of them =====
/-- a private method of a class that the tables say can be made, by its rows of tables_1 -/
def lw_okq (q : MethodName × Nat) : Prop := (q.1.cls ≠ "java/lang/invoke/MethodHandle" ∧ q.1.cls ≠ "java/lang/invoke/VarHandle") ∧ Cond.instantiable q.1.cls q.2 ∈ tables_1 ∧ Cond.privateMethod q.1 ∈ tables_1 ∧ Cond.instanceMethod q.1 ∈ tables_1
theorem lw_p0 : lw_okq (⟨"SeamMap", "beginAnew", "(II)V"⟩, 8) := ⟨⟨by decide +kernel, by decide +kernel⟩, List.mem_of_getElem? (i := 12) (by decide +kernel), List.mem_of_getElem? (i := 191) (by decide +kernel), List.mem_of_getElem? (i := 192) (by decide +kernel)⟩
theorem lw_p1 : lw_okq (⟨"SeamMap$Surface", "joinTiles", "()V"⟩, 6) := ⟨⟨by decide +kernel, by decide +kernel⟩, List.mem_of_getElem? (i := 20) (by decide +kernel), List.mem_of_getElem? (i := 203) (by decide +kernel), List.mem_of_getElem? (i := 204) (by decide +kernel)⟩
theorem lw_p2 : lw_okq (⟨"SeamMap$Surface", "joinInside", "()V"⟩, 6) := ⟨⟨by decide +kernel, by decide +kernel⟩, List.mem_of_getElem? (i := 20) (by decide +kernel), List.mem_of_getElem? (i := 211) (by decide +kernel), List.mem_of_getElem? (i := 212) (by decide +kernel)⟩
theorem lw_p3 : lw_okq (⟨"SeamMap$Surface", "join", "(IIII)V"⟩, 6) := ⟨⟨by decide +kernel, by decide +kernel⟩, List.mem_of_getElem? (i := 20) (by decide +kernel), List.mem_of_getElem? (i := 215) (by decide +kernel), List.mem_of_getElem? (i := 216) (by decide +kernel)⟩
theorem lw_p4 : lw_okq (⟨"SeamMap$Surface", "joinSide", "()V"⟩, 6) := ⟨⟨by decide +kernel, by decide +kernel⟩, List.mem_of_getElem? (i := 20) (by decide +kernel), List.mem_of_getElem? (i := 219) (by decide +kernel), List.mem_of_getElem? (i := 220) (by decide +kernel)⟩
theorem lw_p5 : lw_okq (⟨"SeamMap$Surface", "joinEnd", "()V"⟩, 6) := ⟨⟨by decide +kernel, by decide +kernel⟩, List.mem_of_getElem? (i := 20) (by decide +kernel), List.mem_of_getElem? (i := 238) (by decide +kernel), List.mem_of_getElem? (i := 239) (by decide +kernel)⟩
theorem lw_p6 : lw_okq (⟨"SeamMap$Parts", "flood", "(I)V"⟩, 9) := ⟨⟨by decide +kernel, by decide +kernel⟩, List.mem_of_getElem? (i := 155) (by decide +kernel), List.mem_of_getElem? (i := 255) (by decide +kernel), List.mem_of_getElem? (i := 256) (by decide +kernel)⟩
theorem lw_p7 : lw_okq (⟨"SeamMap$Parts", "enter", "(IIII)V"⟩, 9) := ⟨⟨by decide +kernel, by decide +kernel⟩, List.mem_of_getElem? (i := 155) (by decide +kernel), List.mem_of_getElem? (i := 263) (by decide +kernel), List.mem_of_getElem? (i := 264) (by decide +kernel)⟩
theorem lw_p8 : lw_okq (⟨"SeamMap$Parts", "spread", "(I)V"⟩, 9) := ⟨⟨by decide +kernel, by decide +kernel⟩, List.mem_of_getElem? (i := 155) (by decide +kernel), List.mem_of_getElem? (i := 279) (by decide +kernel), List.mem_of_getElem? (i := 280) (by decide +kernel)⟩
theorem lw_p9 : lw_okq (⟨"SeamMap", "repairParts", "()V"⟩, 8) := ⟨⟨by decide +kernel, by decide +kernel⟩, List.mem_of_getElem? (i := 12) (by decide +kernel), List.mem_of_getElem? (i := 340) (by decide +kernel), List.mem_of_getElem? (i := 341) (by decide +kernel)⟩
theorem lw_p10 : lw_okq (⟨"SeamMap$History", "place", "(I)I"⟩, 3) := ⟨⟨by decide +kernel, by decide +kernel⟩, List.mem_of_getElem? (i := 137) (by decide +kernel), List.mem_of_getElem? (i := 381) (by decide +kernel), List.mem_of_getElem? (i := 382) (by decide +kernel)⟩
theorem lw_p11 : lw_okq (⟨"SeamMap$Parts", "bordersToOthers", "(I)I"⟩, 9) := ⟨⟨by decide +kernel, by decide +kernel⟩, List.mem_of_getElem? (i := 155) (by decide +kernel), List.mem_of_getElem? (i := 453) (by decide +kernel), List.mem_of_getElem? (i := 454) (by decide +kernel)⟩
theorem lw_p12 : lw_okq (⟨"SeamMap$Parts", "leadsOut", "(II)Z"⟩, 9) := ⟨⟨by decide +kernel, by decide +kernel⟩, List.mem_of_getElem? (i := 155) (by decide +kernel), List.mem_of_getElem? (i := 457) (by decide +kernel), List.mem_of_getElem? (i := 458) (by decide +kernel)⟩
theorem lw_p13 : lw_okq (⟨"SeamMap$Parts", "bordersToNothing", "(I)I"⟩, 9) := ⟨⟨by decide +kernel, by decide +kernel⟩, List.mem_of_getElem? (i := 155) (by decide +kernel), List.mem_of_getElem? (i := 461) (by decide +kernel), List.mem_of_getElem? (i := 462) (by decide +kernel)⟩
theorem lw_p14 : lw_okq (⟨"SeamMap$Parts", "loops", "(I)I"⟩, 9) := ⟨⟨by decide +kernel, by decide +kernel⟩, List.mem_of_getElem? (i := 155) (by decide +kernel), List.mem_of_getElem? (i := 465) (by decide +kernel), List.mem_of_getElem? (i := 466) (by decide +kernel)⟩
theorem lw_p15 : lw_okq (⟨"SeamMap$Parts", "loopOver", "(II)I"⟩, 9) := ⟨⟨by decide +kernel, by decide +kernel⟩, List.mem_of_getElem? (i := 155) (by decide +kernel), List.mem_of_getElem? (i := 469) (by decide +kernel), List.mem_of_getElem? (i := 470) (by decide +kernel)⟩
def lw_privs_1 : List (MethodName × Nat) := [(⟨"SeamMap", "beginAnew", "(II)V"⟩, 8), (⟨"SeamMap$Surface", "joinTiles", "()V"⟩, 6), (⟨"SeamMap$Surface", "joinInside", "()V"⟩, 6), (⟨"SeamMap$Surface", "join", "(IIII)V"⟩, 6), (⟨"SeamMap$Surface", "joinSide", "()V"⟩, 6), (⟨"SeamMap$Surface", "joinEnd", "()V"⟩, 6), (⟨"SeamMap$Parts", "flood", "(I)V"⟩, 9), (⟨"SeamMap$Parts", "enter", "(IIII)V"⟩, 9), (⟨"SeamMap$Parts", "spread", "(I)V"⟩, 9), (⟨"SeamMap", "repairParts", "()V"⟩, 8), (⟨"SeamMap$History", "place", "(I)I"⟩, 3), (⟨"SeamMap$Parts", "bordersToOthers", "(I)I"⟩, 9), (⟨"SeamMap$Parts", "leadsOut", "(II)Z"⟩, 9), (⟨"SeamMap$Parts", "bordersToNothing", "(I)I"⟩, 9), (⟨"SeamMap$Parts", "loops", "(I)I"⟩, 9), (⟨"SeamMap$Parts", "loopOver", "(II)I"⟩, 9)]
theorem lw_r1 : ∀ q ∈ lw_privs_1, lw_okq q := List.forall_mem_cons.mpr ⟨lw_p0, List.forall_mem_cons.mpr ⟨lw_p1, List.forall_mem_cons.mpr ⟨lw_p2, List.forall_mem_cons.mpr ⟨lw_p3, List.forall_mem_cons.mpr ⟨lw_p4, List.forall_mem_cons.mpr ⟨lw_p5, List.forall_mem_cons.mpr ⟨lw_p6, List.forall_mem_cons.mpr ⟨lw_p7, List.forall_mem_cons.mpr ⟨lw_p8, List.forall_mem_cons.mpr ⟨lw_p9, List.forall_mem_cons.mpr ⟨lw_p10, List.forall_mem_cons.mpr ⟨lw_p11, List.forall_mem_cons.mpr ⟨lw_p12, List.forall_mem_cons.mpr ⟨lw_p13, List.forall_mem_cons.mpr ⟨lw_p14, List.forall_mem_cons.mpr ⟨lw_p15, fun _ h => absurd h List.not_mem_nil⟩⟩⟩⟩⟩⟩⟩⟩⟩⟩⟩⟩⟩⟩⟩⟩
theorem lw_p16 : lw_okq (⟨"SeamMap$Parts", "isOneSided", "(I)Z"⟩, 9) := ⟨⟨by decide +kernel, by decide +kernel⟩, List.mem_of_getElem? (i := 155) (by decide +kernel), List.mem_of_getElem? (i := 476) (by decide +kernel), List.mem_of_getElem? (i := 477) (by decide +kernel)⟩
theorem lw_p17 : lw_okq (⟨"SeamMap$Parts", "partsBeside", "(I)I"⟩, 9) := ⟨⟨by decide +kernel, by decide +kernel⟩, List.mem_of_getElem? (i := 155) (by decide +kernel), List.mem_of_getElem? (i := 480) (by decide +kernel), List.mem_of_getElem? (i := 481) (by decide +kernel)⟩
theorem lw_p18 : lw_okq (⟨"SeamMap$Parts", "isFirstMeeting", "(I)Z"⟩, 9) := ⟨⟨by decide +kernel, by decide +kernel⟩, List.mem_of_getElem? (i := 155) (by decide +kernel), List.mem_of_getElem? (i := 484) (by decide +kernel), List.mem_of_getElem? (i := 485) (by decide +kernel)⟩
theorem lw_p19 : lw_okq (⟨"SeamMap$Parts", "greatestDepth", "(I)I"⟩, 9) := ⟨⟨by decide +kernel, by decide +kernel⟩, List.mem_of_getElem? (i := 155) (by decide +kernel), List.mem_of_getElem? (i := 488) (by decide +kernel), List.mem_of_getElem? (i := 489) (by decide +kernel)⟩
theorem lw_p20 : lw_okq (⟨"SeamMap$Ways", "reach", "(II)V"⟩, 5) := ⟨⟨by decide +kernel, by decide +kernel⟩, List.mem_of_getElem? (i := 59) (by decide +kernel), List.mem_of_getElem? (i := 516) (by decide +kernel), List.mem_of_getElem? (i := 517) (by decide +kernel)⟩
theorem lw_p21 : lw_okq (⟨"SeamMap$Ways", "takeNearestOpen", "()I"⟩, 5) := ⟨⟨by decide +kernel, by decide +kernel⟩, List.mem_of_getElem? (i := 59) (by decide +kernel), List.mem_of_getElem? (i := 522) (by decide +kernel), List.mem_of_getElem? (i := 523) (by decide +kernel)⟩
theorem lw_p22 : lw_okq (⟨"SeamMap$Ways", "spread", "(I)V"⟩, 5) := ⟨⟨by decide +kernel, by decide +kernel⟩, List.mem_of_getElem? (i := 59) (by decide +kernel), List.mem_of_getElem? (i := 531) (by decide +kernel), List.mem_of_getElem? (i := 532) (by decide +kernel)⟩
theorem lw_p23 : lw_okq (⟨"SeamMap$Ways", "stepLength", "(II)I"⟩, 5) := ⟨⟨by decide +kernel, by decide +kernel⟩, List.mem_of_getElem? (i := 59) (by decide +kernel), List.mem_of_getElem? (i := 535) (by decide +kernel), List.mem_of_getElem? (i := 536) (by decide +kernel)⟩
theorem lw_p24 : lw_okq (⟨"SeamMap$Ways", "nextOnRoute", "(I)I"⟩, 5) := ⟨⟨by decide +kernel, by decide +kernel⟩, List.mem_of_getElem? (i := 59) (by decide +kernel), List.mem_of_getElem? (i := 552) (by decide +kernel), List.mem_of_getElem? (i := 553) (by decide +kernel)⟩
theorem lw_p25 : lw_okq (⟨"SeamMap$Walker", "begin", "(II)V"⟩, 7) := ⟨⟨by decide +kernel, by decide +kernel⟩, List.mem_of_getElem? (i := 108) (by decide +kernel), List.mem_of_getElem? (i := 611) (by decide +kernel), List.mem_of_getElem? (i := 612) (by decide +kernel)⟩
theorem lw_p26 : lw_okq (⟨"SeamMap$Walker", "enter", "(I)V"⟩, 7) := ⟨⟨by decide +kernel, by decide +kernel⟩, List.mem_of_getElem? (i := 108) (by decide +kernel), List.mem_of_getElem? (i := 615) (by decide +kernel), List.mem_of_getElem? (i := 616) (by decide +kernel)⟩
theorem lw_p27 : lw_okq (⟨"SeamMap$Walker", "obey", "(C)Z"⟩, 7) := ⟨⟨by decide +kernel, by decide +kernel⟩, List.mem_of_getElem? (i := 108) (by decide +kernel), List.mem_of_getElem? (i := 627) (by decide +kernel), List.mem_of_getElem? (i := 628) (by decide +kernel)⟩
theorem lw_p28 : lw_okq (⟨"SeamMap$Walker", "step", "()Z"⟩, 7) := ⟨⟨by decide +kernel, by decide +kernel⟩, List.mem_of_getElem? (i := 108) (by decide +kernel), List.mem_of_getElem? (i := 631) (by decide +kernel), List.mem_of_getElem? (i := 632) (by decide +kernel)⟩
theorem lw_p29 : lw_okq (⟨"SeamMap$Walker", "turn", "(Z)V"⟩, 7) := ⟨⟨by decide +kernel, by decide +kernel⟩, List.mem_of_getElem? (i := 108) (by decide +kernel), List.mem_of_getElem? (i := 637) (by decide +kernel), List.mem_of_getElem? (i := 638) (by decide +kernel)⟩
theorem lw_p30 : lw_okq (⟨"SeamMap", "giveKindToPart", "(II)V"⟩, 8) := ⟨⟨by decide +kernel, by decide +kernel⟩, List.mem_of_getElem? (i := 12) (by decide +kernel), List.mem_of_getElem? (i := 673) (by decide +kernel), List.mem_of_getElem? (i := 674) (by decide +kernel)⟩
theorem lw_p31 : lw_okq (⟨"SeamMap", "takeKindsFromText", "()I"⟩, 8) := ⟨⟨by decide +kernel, by decide +kernel⟩, List.mem_of_getElem? (i := 12) (by decide +kernel), List.mem_of_getElem? (i := 692) (by decide +kernel), List.mem_of_getElem? (i := 693) (by decide +kernel)⟩
def lw_privs_2 : List (MethodName × Nat) := [(⟨"SeamMap$Parts", "isOneSided", "(I)Z"⟩, 9), (⟨"SeamMap$Parts", "partsBeside", "(I)I"⟩, 9), (⟨"SeamMap$Parts", "isFirstMeeting", "(I)Z"⟩, 9), (⟨"SeamMap$Parts", "greatestDepth", "(I)I"⟩, 9), (⟨"SeamMap$Ways", "reach", "(II)V"⟩, 5), (⟨"SeamMap$Ways", "takeNearestOpen", "()I"⟩, 5), (⟨"SeamMap$Ways", "spread", "(I)V"⟩, 5), (⟨"SeamMap$Ways", "stepLength", "(II)I"⟩, 5), (⟨"SeamMap$Ways", "nextOnRoute", "(I)I"⟩, 5), (⟨"SeamMap$Walker", "begin", "(II)V"⟩, 7), (⟨"SeamMap$Walker", "enter", "(I)V"⟩, 7), (⟨"SeamMap$Walker", "obey", "(C)Z"⟩, 7), (⟨"SeamMap$Walker", "step", "()Z"⟩, 7), (⟨"SeamMap$Walker", "turn", "(Z)V"⟩, 7), (⟨"SeamMap", "giveKindToPart", "(II)V"⟩, 8), (⟨"SeamMap", "takeKindsFromText", "()I"⟩, 8)]
theorem lw_r2 : ∀ q ∈ lw_privs_2, lw_okq q := List.forall_mem_cons.mpr ⟨lw_p16, List.forall_mem_cons.mpr ⟨lw_p17, List.forall_mem_cons.mpr ⟨lw_p18, List.forall_mem_cons.mpr ⟨lw_p19, List.forall_mem_cons.mpr ⟨lw_p20, List.forall_mem_cons.mpr ⟨lw_p21, List.forall_mem_cons.mpr ⟨lw_p22, List.forall_mem_cons.mpr ⟨lw_p23, List.forall_mem_cons.mpr ⟨lw_p24, List.forall_mem_cons.mpr ⟨lw_p25, List.forall_mem_cons.mpr ⟨lw_p26, List.forall_mem_cons.mpr ⟨lw_p27, List.forall_mem_cons.mpr ⟨lw_p28, List.forall_mem_cons.mpr ⟨lw_p29, List.forall_mem_cons.mpr ⟨lw_p30, List.forall_mem_cons.mpr ⟨lw_p31, fun _ h => absurd h List.not_mem_nil⟩⟩⟩⟩⟩⟩⟩⟩⟩⟩⟩⟩⟩⟩⟩⟩
def lw_privs : List (MethodName × Nat) := lw_privs_1 ++ (lw_privs_2)
def lw_tbl : List Cond := k2_sels lw_privs ++ tables_1
theorem lw_privs_ok : ∀ q ∈ lw_privs, lw_okq q := by
  show ∀ q ∈ lw_privs_1 ++ (lw_privs_2), lw_okq q
  exact List.forall_mem_append.mpr ⟨lw_r1, lw_r2⟩
def RX0 : String := "SeamMap$History"
def TX0 : u_T := fun k => match k with
  | 0 => ("SeamMap$History", "maps", "[[I", true)
  | 1 => ("SeamMap$History", "oldest", "I", false)
  | _ => ("SeamMap$History", "size", "I", false)
def tyX0 : Nat → FieldType := fun k => match k with
  | 0 => .array (.array .int)
  | 1 => .int
  | _ => .int
abbrev wsX00 : List Cond := u_ws RX0 TX0 3
theorem nmX0 : ∀ a, a < 3 → ∀ b, b < 3 → a ≠ b → (TX0 a).2.1 ≠ (TX0 b).2.1 := by decide +kernel
theorem tyX0_ok : ∀ k, k < 3 → parseFieldDescriptor (TX0 k).2.2.1 = some (tyX0 k) := by decide +kernel
abbrev cX0_init : ByteArray := prog_2_method_1_code
def yX0_init : MethodName := ⟨RX0, "<init>", "()V"⟩
abbrev cX0_size : ByteArray := prog_2_method_2_code
def yX0_size : MethodName := ⟨RX0, "size", "()I"⟩
abbrev cX0_forget : ByteArray := prog_2_method_3_code
def yX0_forget : MethodName := ⟨RX0, "forget", "()V"⟩
abbrev cX0_record : ByteArray := prog_2_method_4_code
def yX0_record : MethodName := ⟨RX0, "record", "([I)V"⟩
abbrev cX0_restore : ByteArray := prog_2_method_5_code
def yX0_restore : MethodName := ⟨RX0, "restore", "([I)V"⟩
abbrev cX0_place : ByteArray := prog_2_method_6_code
def yX0_place : MethodName := ⟨RX0, "place", "(I)I"⟩
def RX1 : String := "SeamMap$Parts"
def TX1 : u_T := fun k => match k with
  | 0 => ("SeamMap$Parts", "surface", "LSeamMap$Surface;", true)
  | 1 => ("SeamMap$Parts", "kinds", "[I", true)
  | 2 => ("SeamMap$Parts", "labels", "[I", true)
  | 3 => ("SeamMap$Parts", "sizes", "[I", true)
  | 4 => ("SeamMap$Parts", "depths", "[I", true)
  | 5 => ("SeamMap$Parts", "crossed", "[I", true)
  | 6 => ("SeamMap$Parts", "met", "[Z", true)
  | 7 => ("SeamMap$Parts", "flooded", "LSeamMap$TileList;", true)
  | _ => ("SeamMap$Parts", "number", "I", false)
def tyX1 : Nat → FieldType := fun k => match k with
  | 0 => .object "SeamMap$Surface"
  | 1 => .array .int
  | 2 => .array .int
  | 3 => .array .int
  | 4 => .array .int
  | 5 => .array .int
  | 6 => .array .boolean
  | 7 => .object "SeamMap$TileList"
  | _ => .int
abbrev wsX10 : List Cond := u_ws RX1 TX1 9
theorem nmX1 : ∀ a, a < 9 → ∀ b, b < 9 → a ≠ b → (TX1 a).2.1 ≠ (TX1 b).2.1 := by decide +kernel
theorem tyX1_ok : ∀ k, k < 9 → parseFieldDescriptor (TX1 k).2.2.1 = some (tyX1 k) := by decide +kernel
abbrev cX1_init : ByteArray := prog_3_method_1_code
def yX1_init : MethodName := ⟨RX1, "<init>", "(LSeamMap$Surface;[I)V"⟩
abbrev cX1_number : ByteArray := prog_3_method_2_code
def yX1_number : MethodName := ⟨RX1, "number", "()I"⟩
abbrev cX1_labelOf : ByteArray := prog_3_method_3_code
def yX1_labelOf : MethodName := ⟨RX1, "labelOf", "(I)I"⟩
abbrev cX1_sizeOf : ByteArray := prog_3_method_4_code
def yX1_sizeOf : MethodName := ⟨RX1, "sizeOf", "(I)I"⟩
abbrev cX1_find : ByteArray := prog_3_method_5_code
def yX1_find : MethodName := ⟨RX1, "find", "()V"⟩
abbrev cX1_flood : ByteArray := prog_3_method_6_code
def yX1_flood : MethodName := ⟨RX1, "flood", "(I)V"⟩
abbrev cX1_enter : ByteArray := prog_3_method_7_code
def yX1_enter : MethodName := ⟨RX1, "enter", "(IIII)V"⟩
abbrev cX1_spread : ByteArray := prog_3_method_8_code
def yX1_spread : MethodName := ⟨RX1, "spread", "(I)V"⟩
abbrev cX1_changesSince : ByteArray := prog_3_method_9_code
def yX1_changesSince : MethodName := ⟨RX1, "changesSince", "(LSeamMap$Parts;I)I"⟩
abbrev cX1_labelNumber : ByteArray := prog_3_method_10_code
def yX1_labelNumber : MethodName := ⟨RX1, "labelNumber", "(I)I"⟩
abbrev cX1_greatestOf : ByteArray := prog_3_method_11_code
def yX1_greatestOf : MethodName := ⟨RX1, "greatestOf", "(I)I"⟩
abbrev cX1_property : ByteArray := prog_3_method_12_code
def yX1_property : MethodName := ⟨RX1, "property", "(II)I"⟩
abbrev cX1_leadsOut : ByteArray := prog_3_method_13_code
def yX1_leadsOut : MethodName := ⟨RX1, "leadsOut", "(II)Z"⟩
abbrev cX1_bordersToOthers : ByteArray := prog_3_method_14_code
def yX1_bordersToOthers : MethodName := ⟨RX1, "bordersToOthers", "(I)I"⟩
abbrev cX1_bordersToNothing : ByteArray := prog_3_method_15_code
def yX1_bordersToNothing : MethodName := ⟨RX1, "bordersToNothing", "(I)I"⟩
abbrev cX1_loopOver : ByteArray := prog_3_method_16_code
def yX1_loopOver : MethodName := ⟨RX1, "loopOver", "(II)I"⟩
abbrev cX1_loops : ByteArray := prog_3_method_17_code
def yX1_loops : MethodName := ⟨RX1, "loops", "(I)I"⟩
abbrev cX1_withLoop : ByteArray := prog_3_method_18_code
def yX1_withLoop : MethodName := ⟨RX1, "withLoop", "(II)I"⟩
abbrev cX1_isOneSided : ByteArray := prog_3_method_19_code
def yX1_isOneSided : MethodName := ⟨RX1, "isOneSided", "(I)Z"⟩
abbrev cX1_partsBeside : ByteArray := prog_3_method_20_code
def yX1_partsBeside : MethodName := ⟨RX1, "partsBeside", "(I)I"⟩
abbrev cX1_isFirstMeeting : ByteArray := prog_3_method_21_code
def yX1_isFirstMeeting : MethodName := ⟨RX1, "isFirstMeeting", "(I)Z"⟩
abbrev cX1_greatestDepth : ByteArray := prog_3_method_22_code
def yX1_greatestDepth : MethodName := ⟨RX1, "greatestDepth", "(I)I"⟩
def RX2 : String := "SeamMap$Seam"
def TX2 : u_T := fun k => match k with
  | 0 => ("SeamMap$Seam", "style", "I", false)
  | _ => ("SeamMap$Seam", "offset", "I", false)
def tyX2 : Nat → FieldType := fun k => match k with
  | 0 => .int
  | _ => .int
abbrev wsX20 : List Cond := u_ws RX2 TX2 2
theorem nmX2 : ∀ a, a < 2 → ∀ b, b < 2 → a ≠ b → (TX2 a).2.1 ≠ (TX2 b).2.1 := by decide +kernel
theorem tyX2_ok : ∀ k, k < 2 → parseFieldDescriptor (TX2 k).2.2.1 = some (tyX2 k) := by decide +kernel
abbrev cX2_init : ByteArray := prog_4_method_1_code
def yX2_init : MethodName := ⟨RX2, "<init>", "()V"⟩
abbrev cX2_style : ByteArray := prog_4_method_2_code
def yX2_style : MethodName := ⟨RX2, "style", "()I"⟩
abbrev cX2_offset : ByteArray := prog_4_method_3_code
def yX2_offset : MethodName := ⟨RX2, "offset", "()I"⟩
abbrev cX2_change : ByteArray := prog_4_method_4_code
def yX2_change : MethodName := ⟨RX2, "change", "(II)Z"⟩
abbrev cX2_crossing : ByteArray := prog_4_method_5_code
def yX2_crossing : MethodName := ⟨RX2, "crossing", "(I)I"⟩
abbrev cX2_placeBeyond : ByteArray := prog_4_method_6_code
def yX2_placeBeyond : MethodName := ⟨RX2, "placeBeyond", "(II)I"⟩
abbrev cX2_modulo : ByteArray := prog_4_method_7_code
def yX2_modulo : MethodName := ⟨RX2, "modulo", "(II)I"⟩
def RX3 : String := "SeamMap$Surface"
def TX3 : u_T := fun k => match k with
  | 0 => ("SeamMap$Surface", "side", "LSeamMap$Seam;", true)
  | 1 => ("SeamMap$Surface", "end", "LSeamMap$Seam;", true)
  | 2 => ("SeamMap$Surface", "nexts", "[I", true)
  | 3 => ("SeamMap$Surface", "crossings", "[I", true)
  | 4 => ("SeamMap$Surface", "columns", "I", false)
  | _ => ("SeamMap$Surface", "rows", "I", false)
def tyX3 : Nat → FieldType := fun k => match k with
  | 0 => .object "SeamMap$Seam"
  | 1 => .object "SeamMap$Seam"
  | 2 => .array .int
  | 3 => .array .int
  | 4 => .int
  | _ => .int
abbrev wsX30 : List Cond := u_ws RX3 TX3 6
theorem nmX3 : ∀ a, a < 6 → ∀ b, b < 6 → a ≠ b → (TX3 a).2.1 ≠ (TX3 b).2.1 := by decide +kernel
theorem tyX3_ok : ∀ k, k < 6 → parseFieldDescriptor (TX3 k).2.2.1 = some (tyX3 k) := by decide +kernel
abbrev cX3_init : ByteArray := prog_5_method_1_code
def yX3_init : MethodName := ⟨RX3, "<init>", "()V"⟩
abbrev cX3_columns : ByteArray := prog_5_method_2_code
def yX3_columns : MethodName := ⟨RX3, "columns", "()I"⟩
abbrev cX3_rows : ByteArray := prog_5_method_3_code
def yX3_rows : MethodName := ⟨RX3, "rows", "()I"⟩
abbrev cX3_tiles : ByteArray := prog_5_method_4_code
def yX3_tiles : MethodName := ⟨RX3, "tiles", "()I"⟩
abbrev cX3_sideSeam : ByteArray := prog_5_method_5_code
def yX3_sideSeam : MethodName := ⟨RX3, "sideSeam", "()LSeamMap$Seam;"⟩
abbrev cX3_endSeam : ByteArray := prog_5_method_6_code
def yX3_endSeam : MethodName := ⟨RX3, "endSeam", "()LSeamMap$Seam;"⟩
abbrev cX3_has : ByteArray := prog_5_method_7_code
def yX3_has : MethodName := ⟨RX3, "has", "(I)Z"⟩
abbrev cX3_next : ByteArray := prog_5_method_8_code
def yX3_next : MethodName := ⟨RX3, "next", "(II)I"⟩
abbrev cX3_crossing : ByteArray := prog_5_method_9_code
def yX3_crossing : MethodName := ⟨RX3, "crossing", "(II)I"⟩
abbrev cX3_openBorders : ByteArray := prog_5_method_10_code
def yX3_openBorders : MethodName := ⟨RX3, "openBorders", "()I"⟩
abbrev cX3_begin : ByteArray := prog_5_method_11_code
def yX3_begin : MethodName := ⟨RX3, "begin", "(II)V"⟩
abbrev cX3_changeSeam : ByteArray := prog_5_method_12_code
def yX3_changeSeam : MethodName := ⟨RX3, "changeSeam", "(ZII)Z"⟩
abbrev cX3_joinTiles : ByteArray := prog_5_method_13_code
def yX3_joinTiles : MethodName := ⟨RX3, "joinTiles", "()V"⟩
abbrev cX3_joinInside : ByteArray := prog_5_method_14_code
def yX3_joinInside : MethodName := ⟨RX3, "joinInside", "()V"⟩
abbrev cX3_joinSide : ByteArray := prog_5_method_15_code
def yX3_joinSide : MethodName := ⟨RX3, "joinSide", "()V"⟩
abbrev cX3_joinEnd : ByteArray := prog_5_method_16_code
def yX3_joinEnd : MethodName := ⟨RX3, "joinEnd", "()V"⟩
abbrev cX3_join : ByteArray := prog_5_method_17_code
def yX3_join : MethodName := ⟨RX3, "join", "(IIII)V"⟩
def RX4 : String := "SeamMap$Text"
def TX4 : u_T := fun k => match k with
  | 0 => ("SeamMap$Text", "characters", "[C", true)
  | _ => ("SeamMap$Text", "length", "I", false)
def tyX4 : Nat → FieldType := fun k => match k with
  | 0 => .array .char
  | _ => .int
abbrev wsX40 : List Cond := u_ws RX4 TX4 2
theorem nmX4 : ∀ a, a < 2 → ∀ b, b < 2 → a ≠ b → (TX4 a).2.1 ≠ (TX4 b).2.1 := by decide +kernel
theorem tyX4_ok : ∀ k, k < 2 → parseFieldDescriptor (TX4 k).2.2.1 = some (tyX4 k) := by decide +kernel
abbrev cX4_init : ByteArray := prog_6_method_1_code
def yX4_init : MethodName := ⟨RX4, "<init>", "()V"⟩
abbrev cX4_length : ByteArray := prog_6_method_2_code
def yX4_length : MethodName := ⟨RX4, "length", "()I"⟩
abbrev cX4_at : ByteArray := prog_6_method_3_code
def yX4_at : MethodName := ⟨RX4, "at", "(I)C"⟩
abbrev cX4_append : ByteArray := prog_6_method_4_code
def yX4_append : MethodName := ⟨RX4, "append", "(C)I"⟩
abbrev cX4_empty : ByteArray := prog_6_method_5_code
def yX4_empty : MethodName := ⟨RX4, "empty", "()I"⟩
abbrev cX4_faultAsTiles : ByteArray := prog_6_method_6_code
def yX4_faultAsTiles : MethodName := ⟨RX4, "faultAsTiles", "(II)I"⟩
abbrev cX4_isFitting : ByteArray := prog_6_method_7_code
def yX4_isFitting : MethodName := ⟨RX4, "isFitting", "(CZ)Z"⟩
abbrev cX4_kindAt : ByteArray := prog_6_method_8_code
def yX4_kindAt : MethodName := ⟨RX4, "kindAt", "(III)I"⟩
abbrev cX4_faultAsWalk : ByteArray := prog_6_method_9_code
def yX4_faultAsWalk : MethodName := ⟨RX4, "faultAsWalk", "()I"⟩
def RX5 : String := "SeamMap$TileList"
def TX5 : u_T := fun k => match k with
  | 0 => ("SeamMap$TileList", "tiles", "[I", true)
  | _ => ("SeamMap$TileList", "number", "I", false)
def tyX5 : Nat → FieldType := fun k => match k with
  | 0 => .array .int
  | _ => .int
abbrev wsX50 : List Cond := u_ws RX5 TX5 2
theorem nmX5 : ∀ a, a < 2 → ∀ b, b < 2 → a ≠ b → (TX5 a).2.1 ≠ (TX5 b).2.1 := by decide +kernel
theorem tyX5_ok : ∀ k, k < 2 → parseFieldDescriptor (TX5 k).2.2.1 = some (tyX5 k) := by decide +kernel
abbrev cX5_init : ByteArray := prog_7_method_1_code
def yX5_init : MethodName := ⟨RX5, "<init>", "()V"⟩
abbrev cX5_number : ByteArray := prog_7_method_2_code
def yX5_number : MethodName := ⟨RX5, "number", "()I"⟩
abbrev cX5_at : ByteArray := prog_7_method_3_code
def yX5_at : MethodName := ⟨RX5, "at", "(I)I"⟩
abbrev cX5_clear : ByteArray := prog_7_method_4_code
def yX5_clear : MethodName := ⟨RX5, "clear", "()V"⟩
abbrev cX5_add : ByteArray := prog_7_method_5_code
def yX5_add : MethodName := ⟨RX5, "add", "(I)V"⟩
abbrev cX5_takeOut : ByteArray := prog_7_method_6_code
def yX5_takeOut : MethodName := ⟨RX5, "takeOut", "(I)I"⟩
def RX6 : String := "SeamMap$Walker"
def TX6 : u_T := fun k => match k with
  | 0 => ("SeamMap$Walker", "surface", "LSeamMap$Surface;", true)
  | 1 => ("SeamMap$Walker", "entered", "[Z", true)
  | 2 => ("SeamMap$Walker", "tile", "I", false)
  | 3 => ("SeamMap$Walker", "heading", "I", false)
  | 4 => ("SeamMap$Walker", "side", "I", false)
  | 5 => ("SeamMap$Walker", "steps", "I", false)
  | _ => ("SeamMap$Walker", "differentTiles", "I", false)
def tyX6 : Nat → FieldType := fun k => match k with
  | 0 => .object "SeamMap$Surface"
  | 1 => .array .boolean
  | 2 => .int
  | 3 => .int
  | 4 => .int
  | 5 => .int
  | _ => .int
abbrev wsX60 : List Cond := u_ws RX6 TX6 7
theorem nmX6 : ∀ a, a < 7 → ∀ b, b < 7 → a ≠ b → (TX6 a).2.1 ≠ (TX6 b).2.1 := by decide +kernel
theorem tyX6_ok : ∀ k, k < 7 → parseFieldDescriptor (TX6 k).2.2.1 = some (tyX6 k) := by decide +kernel
abbrev cX6_init : ByteArray := prog_8_method_1_code
def yX6_init : MethodName := ⟨RX6, "<init>", "(LSeamMap$Surface;)V"⟩
abbrev cX6_follow : ByteArray := prog_8_method_2_code
def yX6_follow : MethodName := ⟨RX6, "follow", "(LSeamMap$Text;II)V"⟩
abbrev cX6_begin : ByteArray := prog_8_method_3_code
def yX6_begin : MethodName := ⟨RX6, "begin", "(II)V"⟩
abbrev cX6_obey : ByteArray := prog_8_method_4_code
def yX6_obey : MethodName := ⟨RX6, "obey", "(C)Z"⟩
abbrev cX6_step : ByteArray := prog_8_method_5_code
def yX6_step : MethodName := ⟨RX6, "step", "()Z"⟩
abbrev cX6_enter : ByteArray := prog_8_method_6_code
def yX6_enter : MethodName := ⟨RX6, "enter", "(I)V"⟩
abbrev cX6_turn : ByteArray := prog_8_method_7_code
def yX6_turn : MethodName := ⟨RX6, "turn", "(Z)V"⟩
abbrev cX6_tell : ByteArray := prog_8_method_8_code
def yX6_tell : MethodName := ⟨RX6, "tell", "(I)I"⟩
def RX7 : String := "SeamMap$Ways"
def TX7 : u_T := fun k => match k with
  | 0 => ("SeamMap$Ways", "surface", "LSeamMap$Surface;", true)
  | 1 => ("SeamMap$Ways", "kinds", "[I", true)
  | 2 => ("SeamMap$Ways", "weights", "[I", true)
  | 3 => ("SeamMap$Ways", "lengths", "[I", true)
  | _ => ("SeamMap$Ways", "open", "LSeamMap$TileList;", true)
def tyX7 : Nat → FieldType := fun k => match k with
  | 0 => .object "SeamMap$Surface"
  | 1 => .array .int
  | 2 => .array .int
  | 3 => .array .int
  | _ => .object "SeamMap$TileList"
abbrev wsX70 : List Cond := u_ws RX7 TX7 5
theorem nmX7 : ∀ a, a < 5 → ∀ b, b < 5 → a ≠ b → (TX7 a).2.1 ≠ (TX7 b).2.1 := by decide +kernel
theorem tyX7_ok : ∀ k, k < 5 → parseFieldDescriptor (TX7 k).2.2.1 = some (tyX7 k) := by decide +kernel
abbrev cX7_init : ByteArray := prog_9_method_1_code
def yX7_init : MethodName := ⟨RX7, "<init>", "(LSeamMap$Surface;[I)V"⟩
abbrev cX7_levelWeights : ByteArray := prog_9_method_2_code
def yX7_levelWeights : MethodName := ⟨RX7, "levelWeights", "()V"⟩
abbrev cX7_changeWeight : ByteArray := prog_9_method_3_code
def yX7_changeWeight : MethodName := ⟨RX7, "changeWeight", "(II)I"⟩
abbrev cX7_lengthTo : ByteArray := prog_9_method_4_code
def yX7_lengthTo : MethodName := ⟨RX7, "lengthTo", "(I)I"⟩
abbrev cX7_measureFrom : ByteArray := prog_9_method_5_code
def yX7_measureFrom : MethodName := ⟨RX7, "measureFrom", "(I)V"⟩
abbrev cX7_takeNearestOpen : ByteArray := prog_9_method_6_code
def yX7_takeNearestOpen : MethodName := ⟨RX7, "takeNearestOpen", "()I"⟩
abbrev cX7_spread : ByteArray := prog_9_method_7_code
def yX7_spread : MethodName := ⟨RX7, "spread", "(I)V"⟩
abbrev cX7_reach : ByteArray := prog_9_method_8_code
def yX7_reach : MethodName := ⟨RX7, "reach", "(II)V"⟩
abbrev cX7_stepLength : ByteArray := prog_9_method_9_code
def yX7_stepLength : MethodName := ⟨RX7, "stepLength", "(II)I"⟩
abbrev cX7_routeTile : ByteArray := prog_9_method_10_code
def yX7_routeTile : MethodName := ⟨RX7, "routeTile", "(III)I"⟩
abbrev cX7_nextOnRoute : ByteArray := prog_9_method_11_code
def yX7_nextOnRoute : MethodName := ⟨RX7, "nextOnRoute", "(I)I"⟩
abbrev cX7_farthestTile : ByteArray := prog_9_method_12_code
def yX7_farthestTile : MethodName := ⟨RX7, "farthestTile", "(I)I"⟩
abbrev cX7_tilesUpTo : ByteArray := prog_9_method_13_code
def yX7_tilesUpTo : MethodName := ⟨RX7, "tilesUpTo", "(I)I"⟩
abbrev cX7_nearestOf : ByteArray := prog_9_method_14_code
def yX7_nearestOf : MethodName := ⟨RX7, "nearestOf", "(I)I"⟩
def RX8 : String := "SeamMap"
def TX8 : u_T := fun k => match k with
  | 0 => ("SeamMap", "surface", "LSeamMap$Surface;", true)
  | 1 => ("SeamMap", "kinds", "[I", true)
  | 2 => ("SeamMap", "ways", "LSeamMap$Ways;", true)
  | 3 => ("SeamMap", "text", "LSeamMap$Text;", true)
  | 4 => ("SeamMap", "walker", "LSeamMap$Walker;", true)
  | 5 => ("SeamMap", "history", "LSeamMap$History;", true)
  | 6 => ("SeamMap", "parts", "LSeamMap$Parts;", false)
  | _ => ("SeamMap", "otherParts", "LSeamMap$Parts;", false)
def tyX8 : Nat → FieldType := fun k => match k with
  | 0 => .object "SeamMap$Surface"
  | 1 => .array .int
  | 2 => .object "SeamMap$Ways"
  | 3 => .object "SeamMap$Text"
  | 4 => .object "SeamMap$Walker"
  | 5 => .object "SeamMap$History"
  | 6 => .object "SeamMap$Parts"
  | _ => .object "SeamMap$Parts"
abbrev wsX80 : List Cond := u_ws RX8 TX8 8
theorem nmX8 : ∀ a, a < 8 → ∀ b, b < 8 → a ≠ b → (TX8 a).2.1 ≠ (TX8 b).2.1 := by decide +kernel
theorem tyX8_ok : ∀ k, k < 8 → parseFieldDescriptor (TX8 k).2.2.1 = some (tyX8 k) := by decide +kernel
abbrev cX8_init : ByteArray := prog_1_method_1_code
def yX8_init : MethodName := ⟨RX8, "<init>", "()V"⟩
abbrev cX8_reset : ByteArray := prog_1_method_2_code
def yX8_reset : MethodName := ⟨RX8, "reset", "(II)I"⟩
abbrev cX8_setSeam : ByteArray := prog_1_method_3_code
def yX8_setSeam : MethodName := ⟨RX8, "setSeam", "(ZII)I"⟩
abbrev cX8_value : ByteArray := prog_1_method_4_code
def yX8_value : MethodName := ⟨RX8, "value", "(I)I"⟩
abbrev cX8_kind : ByteArray := prog_1_method_5_code
def yX8_kind : MethodName := ⟨RX8, "kind", "(I)I"⟩
abbrev cX8_neighbour : ByteArray := prog_1_method_6_code
def yX8_neighbour : MethodName := ⟨RX8, "neighbour", "(II)I"⟩
abbrev cX8_type : ByteArray := prog_1_method_7_code
def yX8_type : MethodName := ⟨RX8, "type", "(C)I"⟩
abbrev cX8_clearText : ByteArray := prog_1_method_8_code
def yX8_clearText : MethodName := ⟨RX8, "clearText", "()I"⟩
abbrev cX8_readTiles : ByteArray := prog_1_method_9_code
def yX8_readTiles : MethodName := ⟨RX8, "readTiles", "()I"⟩
abbrev cX8_walk : ByteArray := prog_1_method_10_code
def yX8_walk : MethodName := ⟨RX8, "walk", "(III)I"⟩
abbrev cX8_setTile : ByteArray := prog_1_method_11_code
def yX8_setTile : MethodName := ⟨RX8, "setTile", "(II)I"⟩
abbrev cX8_fill : ByteArray := prog_1_method_12_code
def yX8_fill : MethodName := ⟨RX8, "fill", "(II)I"⟩
abbrev cX8_undo : ByteArray := prog_1_method_13_code
def yX8_undo : MethodName := ⟨RX8, "undo", "()I"⟩
abbrev cX8_label : ByteArray := prog_1_method_14_code
def yX8_label : MethodName := ⟨RX8, "label", "(I)I"⟩
abbrev cX8_part : ByteArray := prog_1_method_15_code
def yX8_part : MethodName := ⟨RX8, "part", "(I)I"⟩
abbrev cX8_ofPart : ByteArray := prog_1_method_16_code
def yX8_ofPart : MethodName := ⟨RX8, "ofPart", "(II)I"⟩
abbrev cX8_greatestPart : ByteArray := prog_1_method_17_code
def yX8_greatestPart : MethodName := ⟨RX8, "greatestPart", "(I)I"⟩
abbrev cX8_partsIf : ByteArray := prog_1_method_18_code
def yX8_partsIf : MethodName := ⟨RX8, "partsIf", "(II)I"⟩
abbrev cX8_setWeight : ByteArray := prog_1_method_19_code
def yX8_setWeight : MethodName := ⟨RX8, "setWeight", "(II)I"⟩
abbrev cX8_distance : ByteArray := prog_1_method_20_code
def yX8_distance : MethodName := ⟨RX8, "distance", "(II)I"⟩
abbrev cX8_route : ByteArray := prog_1_method_21_code
def yX8_route : MethodName := ⟨RX8, "route", "(III)I"⟩
abbrev cX8_farthest : ByteArray := prog_1_method_22_code
def yX8_farthest : MethodName := ⟨RX8, "farthest", "(I)I"⟩
abbrev cX8_within : ByteArray := prog_1_method_23_code
def yX8_within : MethodName := ⟨RX8, "within", "(II)I"⟩
abbrev cX8_nearest : ByteArray := prog_1_method_24_code
def yX8_nearest : MethodName := ⟨RX8, "nearest", "(II)I"⟩
abbrev cX8_isSize : ByteArray := prog_1_method_25_code
def yX8_isSize : MethodName := ⟨RX8, "isSize", "(I)Z"⟩
abbrev cX8_isKind : ByteArray := prog_1_method_26_code
def yX8_isKind : MethodName := ⟨RX8, "isKind", "(I)Z"⟩
abbrev cX8_isDirection : ByteArray := prog_1_method_27_code
def yX8_isDirection : MethodName := ⟨RX8, "isDirection", "(I)Z"⟩
abbrev cX8_beginAnew : ByteArray := prog_1_method_28_code
def yX8_beginAnew : MethodName := ⟨RX8, "beginAnew", "(II)V"⟩
abbrev cX8_repairParts : ByteArray := prog_1_method_29_code
def yX8_repairParts : MethodName := ⟨RX8, "repairParts", "()V"⟩
abbrev cX8_takeKindsFromText : ByteArray := prog_1_method_30_code
def yX8_takeKindsFromText : MethodName := ⟨RX8, "takeKindsFromText", "()I"⟩
abbrev cX8_giveKindToPart : ByteArray := prog_1_method_31_code
def yX8_giveKindToPart : MethodName := ⟨RX8, "giveKindToPart", "(II)V"⟩
def RL : String := "SeamMapLaw"
abbrev cL_cell : ByteArray := method_2_code
def yL_cell : MethodName := ⟨RL, "cell", "([II)I"⟩
abbrev cL_low : ByteArray := method_3_code
def yL_low : MethodName := ⟨RL, "low", "(II)I"⟩
abbrev cL_steps : ByteArray := method_4_code
def yL_steps : MethodName := ⟨RL, "steps", "(LSeamMap;)Z"⟩
abbrev cL_parts : ByteArray := method_5_code
def yL_parts : MethodName := ⟨RL, "parts", "(LSeamMap;)Z"⟩
abbrev cL_greatest : ByteArray := method_6_code
def yL_greatest : MethodName := ⟨RL, "greatest", "(LSeamMap;I)Z"⟩
abbrev cL_distances : ByteArray := method_7_code
def yL_distances : MethodName := ⟨RL, "distances", "(LSeamMap;[IIII)Z"⟩
abbrev cL_print : ByteArray := method_8_code
def yL_print : MethodName := ⟨RL, "print", "(LSeamMap;)J"⟩
abbrev cL_walks : ByteArray := method_9_code
def yL_walks : MethodName := ⟨RL, "walks", "(LSeamMap;IIII)Z"⟩
abbrev cL_edits : ByteArray := method_10_code
def yL_edits : MethodName := ⟨RL, "edits", "(LSeamMap;III)I"⟩
abbrev cL_errors : ByteArray := method_11_code
def yL_errors : MethodName := ⟨RL, "errors", "(LSeamMap;)Z"⟩
abbrev cL_law : ByteArray := code
def yL_law : MethodName := ⟨RL, "law", "([I)Z"⟩
abbrev vwCl : List vw_C := [(RX0, TX0, 3), (RX1, TX1, 9), (RX2, TX2, 2), (RX3, TX3, 6), (RX4, TX4, 2), (RX5, TX5, 2), (RX6, TX6, 7), (RX7, TX7, 5), (RX8, TX8, 8)]
/-! tables of the program: the decoded instructions of a method, the links of a class -/
def wtb : List Cond := lw_tbl.filter goodWord
theorem wtb_in {w : Cond} (h : w ∈ lw_tbl) (g : goodWord w = true) : w ∈ wtb := List.mem_filter.mpr ⟨h, g⟩
theorem wtb_good {big : List Cond} (hb : ∀ w ∈ wtb, w ∈ big) : GoodIn big wtb := fun w h => ⟨hb w h, good_of_word (List.mem_filter.mp h).2⟩
/-- a jump's target, a constant's range -/
def tgOK (pc : Nat) (i : Instr) (ts : List Nat) : Bool := match i with
  | .goto o => (match ts with | [t] => decide ((pc : Int) + o = (t : Int)) | _ => false)
  | .ifCond _ o => (match ts with | [t] => decide ((pc : Int) + o = (t : Int)) | _ => false)
  | .if_icmp _ o => (match ts with | [t] => decide ((pc : Int) + o = (t : Int)) | _ => false)
  | .tableswitch d lo hi os => (match ts with | t :: us => decide ((pc : Int) + d = (t : Int)) && decide (hi = lo + us.length - 1) && decide (-100 ≤ lo) && decide (us.length ≤ 100) && decide (os.toList = us.map (fun (u : Nat) => (u : Int) - (pc : Int))) | _ => false)
  | .iconst v => decide (-1 ≤ v) && decide (v ≤ 5)
  | .bipush v => decide (-128 ≤ v) && decide (v ≤ 127)
  | .sipush v => decide (-32768 ≤ v) && decide (v ≤ 32767)
  | .iinc _ v => decide (-32768 ≤ v) && decide (v ≤ 32767)
  | _ => true
abbrev TB : Type := List (Nat × Instr × Nat × List Nat)
def tbOK (code : ByteArray) (tb : TB) : Bool := tb.all fun q => decide (decode code q.1 = .ok (q.2.1, q.2.2.1)) && tgOK q.1 q.2.1 q.2.2.2
/-- field links of a class: pool number, class, field, place of the word -/
def ftOK (own : String) (ft : List (Nat × Nat × Nat × Nat)) : Bool := ft.all fun q => match vwCl[q.2.1]? with
  | some (C, T, N) => decide (q.2.2.1 < N) && decide (lw_tbl[q.2.2.2]? = some (.fieldLink own q.1 C (T q.2.2.1).2.1 (T q.2.2.1).2.2.1)) && decide ((T q.2.2.1).1 = C)
  | none => false
theorem mem_at {w : Cond} (i : Nat) (h : lw_tbl[i]? = some w) : w ∈ lw_tbl := List.mem_of_getElem? h
end
section
theorem inX0 : ∀ w ∈ wsX00, w ∈ lw_tbl := by decide +kernel
theorem inX1 : ∀ w ∈ wsX10, w ∈ lw_tbl := by decide +kernel
theorem inX2 : ∀ w ∈ wsX20, w ∈ lw_tbl := by decide +kernel
theorem inX3 : ∀ w ∈ wsX30, w ∈ lw_tbl := by decide +kernel
theorem inX4 : ∀ w ∈ wsX40, w ∈ lw_tbl := by decide +kernel
theorem inX5 : ∀ w ∈ wsX50, w ∈ lw_tbl := by decide +kernel
theorem inX6 : ∀ w ∈ wsX60, w ∈ lw_tbl := by decide +kernel
theorem inX7 : ∀ w ∈ wsX70, w ∈ lw_tbl := by decide +kernel
theorem inX8 : ∀ w ∈ wsX80, w ∈ lw_tbl := by decide +kernel
end
section
def tbX0_size : TB := [(0, .aload_n 0, 1, []), (1, .getfield 16, 3, []), (4, .ireturn, 1, [])]
theorem tbX0_size_ok : tbOK cX0_size tbX0_size = true := by decide +kernel
def tbX0_forget : TB := [(0, .aload_n 0, 1, []), (1, .iconst 0, 1, []), (2, .putfield 20, 3, []), (5, .aload_n 0, 1, []), (6, .iconst 0, 1, []), (7, .putfield 16, 3, []), (10, .return_, 1, [])]
theorem tbX0_forget_ok : tbOK cX0_forget tbX0_forget = true := by decide +kernel
def tbX0_record : TB := [(0, .aload_n 0, 1, []), (1, .getfield 16, 3, []), (4, .bipush 12, 2, []), (6, .if_icmp .ne 22, 3, [28]), (9, .aload_n 0, 1, []), (10, .aload_n 0, 1, []), (11, .iconst 1, 1, []), (12, .invokevirtual 23, 3, []), (15, .putfield 20, 3, []), (18, .aload_n 0, 1, []), (19, .dup, 1, []), (20, .getfield 16, 3, []), (23, .iconst 1, 1, []), (24, .isub, 1, []), (25, .putfield 16, 3, []), (28, .aload_n 1, 1, []), (29, .iconst 0, 1, []), (30, .aload_n 0, 1, []), (31, .getfield 11, 3, []), (34, .aload_n 0, 1, []), (35, .aload_n 0, 1, []), (36, .getfield 16, 3, []), (39, .invokevirtual 23, 3, []), (42, .aaload, 1, []), (43, .iconst 0, 1, []), (44, .sipush 144, 3, []), (47, .invokestatic 27, 3, []), (50, .aload_n 0, 1, []), (51, .dup, 1, []), (52, .getfield 16, 3, []), (55, .iconst 1, 1, []), (56, .iadd, 1, []), (57, .putfield 16, 3, []), (60, .return_, 1, [])]
theorem tbX0_record_ok : tbOK cX0_record tbX0_record = true := by decide +kernel
def tbX0_restore : TB := [(0, .aload_n 0, 1, []), (1, .getfield 16, 3, []), (4, .ifCond .le 35, 3, [39]), (7, .aload_n 0, 1, []), (8, .dup, 1, []), (9, .getfield 16, 3, []), (12, .iconst 1, 1, []), (13, .isub, 1, []), (14, .putfield 16, 3, []), (17, .aload_n 0, 1, []), (18, .getfield 11, 3, []), (21, .aload_n 0, 1, []), (22, .aload_n 0, 1, []), (23, .getfield 16, 3, []), (26, .invokevirtual 23, 3, []), (29, .aaload, 1, []), (30, .iconst 0, 1, []), (31, .aload_n 1, 1, []), (32, .iconst 0, 1, []), (33, .sipush 144, 3, []), (36, .invokestatic 27, 3, []), (39, .return_, 1, [])]
theorem tbX0_restore_ok : tbOK cX0_restore tbX0_restore = true := by decide +kernel
def tbX0_place : TB := [(0, .aload_n 0, 1, []), (1, .getfield 20, 3, []), (4, .iload_n 1, 1, []), (5, .iadd, 1, []), (6, .istore_n 2, 1, []), (7, .iload_n 2, 1, []), (8, .bipush 12, 2, []), (10, .if_icmp .ge 7, 3, [17]), (13, .iload_n 2, 1, []), (14, .goto 7, 3, [21]), (17, .iload_n 2, 1, []), (18, .bipush 12, 2, []), (20, .isub, 1, []), (21, .ireturn, 1, [])]
theorem tbX0_place_ok : tbOK cX0_place tbX0_place = true := by decide +kernel
def tbX1_number : TB := [(0, .aload_n 0, 1, []), (1, .getfield 42, 3, []), (4, .ireturn, 1, [])]
theorem tbX1_number_ok : tbOK cX1_number tbX1_number = true := by decide +kernel
def tbX1_labelOf : TB := [(0, .aload_n 0, 1, []), (1, .getfield 9, 3, []), (4, .iload_n 1, 1, []), (5, .iaload, 1, []), (6, .ireturn, 1, [])]
theorem tbX1_labelOf_ok : tbOK cX1_labelOf tbX1_labelOf = true := by decide +kernel
def tbX1_sizeOf : TB := [(0, .aload_n 0, 1, []), (1, .getfield 15, 3, []), (4, .iload_n 1, 1, []), (5, .iaload, 1, []), (6, .ireturn, 1, [])]
theorem tbX1_sizeOf_ok : tbOK cX1_sizeOf tbX1_sizeOf = true := by decide +kernel
def tbX1_find : TB := [(0, .iconst 0, 1, []), (1, .istore_n 1, 1, []), (2, .iload_n 1, 1, []), (3, .aload_n 0, 1, []), (4, .getfield 35, 3, []), (7, .invokevirtual 46, 3, []), (10, .if_icmp .ge 17, 3, [27]), (13, .aload_n 0, 1, []), (14, .getfield 9, 3, []), (17, .iload_n 1, 1, []), (18, .bipush (-5), 2, []), (20, .iastore, 1, []), (21, .iinc 1 1, 3, []), (24, .goto (-22), 3, [2]), (27, .aload_n 0, 1, []), (28, .iconst 0, 1, []), (29, .putfield 42, 3, []), (32, .iconst 0, 1, []), (33, .istore_n 1, 1, []), (34, .iload_n 1, 1, []), (35, .aload_n 0, 1, []), (36, .getfield 35, 3, []), (39, .invokevirtual 46, 3, []), (42, .if_icmp .ge 35, 3, [77]), (45, .aload_n 0, 1, []), (46, .getfield 9, 3, []), (49, .iload_n 1, 1, []), (50, .iaload, 1, []), (51, .bipush (-5), 2, []), (53, .if_icmp .ne 18, 3, [71]), (56, .aload_n 0, 1, []), (57, .iload_n 1, 1, []), (58, .invokevirtual 52, 3, []), (61, .aload_n 0, 1, []), (62, .dup, 1, []), (63, .getfield 42, 3, []), (66, .iconst 1, 1, []), (67, .iadd, 1, []), (68, .putfield 42, 3, []), (71, .iinc 1 1, 3, []), (74, .goto (-40), 3, [34]), (77, .return_, 1, [])]
theorem tbX1_find_ok : tbOK cX1_find tbX1_find = true := by decide +kernel
def tbX1_flood : TB := [(0, .aload_n 0, 1, []), (1, .getfield 31, 3, []), (4, .invokevirtual 56, 3, []), (7, .aload_n 0, 1, []), (8, .iload_n 1, 1, []), (9, .iload_n 1, 1, []), (10, .iconst 0, 1, []), (11, .iconst 0, 1, []), (12, .invokevirtual 59, 3, []), (15, .iconst 0, 1, []), (16, .istore_n 2, 1, []), (17, .iload_n 2, 1, []), (18, .sipush 144, 3, []), (21, .if_icmp .ge 32, 3, [53]), (24, .iload_n 2, 1, []), (25, .aload_n 0, 1, []), (26, .getfield 31, 3, []), (29, .invokevirtual 63, 3, []), (32, .if_icmp .ge 21, 3, [53]), (35, .aload_n 0, 1, []), (36, .aload_n 0, 1, []), (37, .getfield 31, 3, []), (40, .iload_n 2, 1, []), (41, .invokevirtual 65, 3, []), (44, .invokevirtual 69, 3, []), (47, .iinc 2 1, 3, []), (50, .goto (-33), 3, [17]), (53, .aload_n 0, 1, []), (54, .getfield 15, 3, []), (57, .iload_n 1, 1, []), (58, .aload_n 0, 1, []), (59, .getfield 31, 3, []), (62, .invokevirtual 63, 3, []), (65, .iastore, 1, []), (66, .return_, 1, [])]
theorem tbX1_flood_ok : tbOK cX1_flood tbX1_flood = true := by decide +kernel
def tbX1_enter : TB := [(0, .aload_n 0, 1, []), (1, .getfield 9, 3, []), (4, .iload_n 1, 1, []), (5, .iload_n 2, 1, []), (6, .iastore, 1, []), (7, .aload_n 0, 1, []), (8, .getfield 18, 3, []), (11, .iload_n 1, 1, []), (12, .iload_n 3, 1, []), (13, .iastore, 1, []), (14, .aload_n 0, 1, []), (15, .getfield 21, 3, []), (18, .iload_n 1, 1, []), (19, .iload 4, 2, []), (21, .iastore, 1, []), (22, .aload_n 0, 1, []), (23, .getfield 31, 3, []), (26, .iload_n 1, 1, []), (27, .invokevirtual 72, 3, []), (30, .return_, 1, [])]
theorem tbX1_enter_ok : tbOK cX1_enter tbX1_enter = true := by decide +kernel
def tbX1_spread : TB := [(0, .iconst 0, 1, []), (1, .istore_n 2, 1, []), (2, .iload_n 2, 1, []), (3, .iconst 4, 1, []), (4, .if_icmp .ge 88, 3, [92]), (7, .aload_n 0, 1, []), (8, .getfield 35, 3, []), (11, .iload_n 1, 1, []), (12, .iload_n 2, 1, []), (13, .invokevirtual 75, 3, []), (16, .istore_n 3, 1, []), (17, .iload_n 3, 1, []), (18, .ifCond .lt 68, 3, [86]), (21, .aload_n 0, 1, []), (22, .getfield 39, 3, []), (25, .iload_n 3, 1, []), (26, .iaload, 1, []), (27, .aload_n 0, 1, []), (28, .getfield 39, 3, []), (31, .iload_n 1, 1, []), (32, .iaload, 1, []), (33, .if_icmp .ne 53, 3, [86]), (36, .aload_n 0, 1, []), (37, .getfield 9, 3, []), (40, .iload_n 3, 1, []), (41, .iaload, 1, []), (42, .bipush (-5), 2, []), (44, .if_icmp .ne 42, 3, [86]), (47, .aload_n 0, 1, []), (48, .getfield 21, 3, []), (51, .iload_n 1, 1, []), (52, .iaload, 1, []), (53, .aload_n 0, 1, []), (54, .getfield 35, 3, []), (57, .iload_n 1, 1, []), (58, .iload_n 2, 1, []), (59, .invokevirtual 79, 3, []), (62, .ixor, 1, []), (63, .istore 4, 2, []), (65, .aload_n 0, 1, []), (66, .iload_n 3, 1, []), (67, .aload_n 0, 1, []), (68, .getfield 9, 3, []), (71, .iload_n 1, 1, []), (72, .iaload, 1, []), (73, .aload_n 0, 1, []), (74, .getfield 18, 3, []), (77, .iload_n 1, 1, []), (78, .iaload, 1, []), (79, .iconst 1, 1, []), (80, .iadd, 1, []), (81, .iload 4, 2, []), (83, .invokevirtual 59, 3, []), (86, .iinc 2 1, 3, []), (89, .goto (-87), 3, [2]), (92, .return_, 1, [])]
theorem tbX1_spread_ok : tbOK cX1_spread tbX1_spread = true := by decide +kernel
def tbX1_changesSince : TB := [(0, .iconst 0, 1, []), (1, .istore_n 3, 1, []), (2, .iconst 0, 1, []), (3, .istore 4, 2, []), (5, .iload 4, 2, []), (7, .aload_n 0, 1, []), (8, .getfield 35, 3, []), (11, .invokevirtual 46, 3, []), (14, .if_icmp .ge 35, 3, [49]), (17, .iload 4, 2, []), (19, .iload_n 2, 1, []), (20, .if_icmp .eq 23, 3, [43]), (23, .aload_n 0, 1, []), (24, .getfield 9, 3, []), (27, .iload 4, 2, []), (29, .iaload, 1, []), (30, .aload_n 1, 1, []), (31, .getfield 9, 3, []), (34, .iload 4, 2, []), (36, .iaload, 1, []), (37, .if_icmp .eq 6, 3, [43]), (40, .iinc 3 1, 3, []), (43, .iinc 4 1, 3, []), (46, .goto (-41), 3, [5]), (49, .iload_n 3, 1, []), (50, .ireturn, 1, [])]
theorem tbX1_changesSince_ok : tbOK cX1_changesSince tbX1_changesSince = true := by decide +kernel
def tbX1_labelNumber : TB := [(0, .iconst 0, 1, []), (1, .istore_n 2, 1, []), (2, .iconst 0, 1, []), (3, .istore_n 3, 1, []), (4, .iload_n 3, 1, []), (5, .aload_n 0, 1, []), (6, .getfield 35, 3, []), (9, .invokevirtual 46, 3, []), (12, .if_icmp .ge 29, 3, [41]), (15, .aload_n 0, 1, []), (16, .getfield 9, 3, []), (19, .iload_n 3, 1, []), (20, .iaload, 1, []), (21, .iload_n 3, 1, []), (22, .if_icmp .ne 13, 3, [35]), (25, .iload_n 2, 1, []), (26, .iload_n 1, 1, []), (27, .if_icmp .ne 5, 3, [32]), (30, .iload_n 3, 1, []), (31, .ireturn, 1, []), (32, .iinc 2 1, 3, []), (35, .iinc 3 1, 3, []), (38, .goto (-34), 3, [4]), (41, .bipush (-5), 2, []), (43, .ireturn, 1, [])]
theorem tbX1_labelNumber_ok : tbOK cX1_labelNumber tbX1_labelNumber = true := by decide +kernel
def tbX1_greatestOf : TB := [(0, .bipush (-5), 2, []), (2, .istore_n 2, 1, []), (3, .iconst 0, 1, []), (4, .istore_n 3, 1, []), (5, .iload_n 3, 1, []), (6, .aload_n 0, 1, []), (7, .getfield 35, 3, []), (10, .invokevirtual 46, 3, []), (13, .if_icmp .ge 52, 3, [65]), (16, .aload_n 0, 1, []), (17, .getfield 9, 3, []), (20, .iload_n 3, 1, []), (21, .iaload, 1, []), (22, .iload_n 3, 1, []), (23, .if_icmp .ne 36, 3, [59]), (26, .aload_n 0, 1, []), (27, .getfield 39, 3, []), (30, .iload_n 3, 1, []), (31, .iaload, 1, []), (32, .iload_n 1, 1, []), (33, .if_icmp .ne 26, 3, [59]), (36, .iload_n 2, 1, []), (37, .bipush (-5), 2, []), (39, .if_icmp .eq 18, 3, [57]), (42, .aload_n 0, 1, []), (43, .getfield 15, 3, []), (46, .iload_n 3, 1, []), (47, .iaload, 1, []), (48, .aload_n 0, 1, []), (49, .getfield 15, 3, []), (52, .iload_n 2, 1, []), (53, .iaload, 1, []), (54, .if_icmp .le 5, 3, [59]), (57, .iload_n 3, 1, []), (58, .istore_n 2, 1, []), (59, .iinc 3 1, 3, []), (62, .goto (-57), 3, [5]), (65, .iload_n 2, 1, []), (66, .ireturn, 1, [])]
theorem tbX1_greatestOf_ok : tbOK cX1_greatestOf tbX1_greatestOf = true := by decide +kernel
def tbX1_property : TB := [(0, .iload_n 2, 1, []), (1, .tableswitch 95 0 6 #[43, 50, 57, 63, 69, 75, 89], 43, [96, 44, 51, 58, 64, 70, 76, 90]), (44, .aload_n 0, 1, []), (45, .getfield 39, 3, []), (48, .iload_n 1, 1, []), (49, .iaload, 1, []), (50, .ireturn, 1, []), (51, .aload_n 0, 1, []), (52, .getfield 15, 3, []), (55, .iload_n 1, 1, []), (56, .iaload, 1, []), (57, .ireturn, 1, []), (58, .aload_n 0, 1, []), (59, .iload_n 1, 1, []), (60, .invokevirtual 82, 3, []), (63, .ireturn, 1, []), (64, .aload_n 0, 1, []), (65, .iload_n 1, 1, []), (66, .invokevirtual 85, 3, []), (69, .ireturn, 1, []), (70, .aload_n 0, 1, []), (71, .iload_n 1, 1, []), (72, .invokevirtual 88, 3, []), (75, .ireturn, 1, []), (76, .aload_n 0, 1, []), (77, .iload_n 1, 1, []), (78, .invokevirtual 91, 3, []), (81, .ifCond .eq 7, 3, [88]), (84, .iconst 1, 1, []), (85, .goto 4, 3, [89]), (88, .iconst 0, 1, []), (89, .ireturn, 1, []), (90, .aload_n 0, 1, []), (91, .iload_n 1, 1, []), (92, .invokevirtual 95, 3, []), (95, .ireturn, 1, []), (96, .aload_n 0, 1, []), (97, .iload_n 1, 1, []), (98, .invokevirtual 98, 3, []), (101, .ireturn, 1, [])]
theorem tbX1_property_ok : tbOK cX1_property tbX1_property = true := by decide +kernel
def tbX1_leadsOut : TB := [(0, .aload_n 0, 1, []), (1, .getfield 35, 3, []), (4, .iload_n 1, 1, []), (5, .iload_n 2, 1, []), (6, .invokevirtual 75, 3, []), (9, .istore_n 3, 1, []), (10, .iload_n 3, 1, []), (11, .ifCond .lt 22, 3, [33]), (14, .aload_n 0, 1, []), (15, .getfield 9, 3, []), (18, .iload_n 3, 1, []), (19, .iaload, 1, []), (20, .aload_n 0, 1, []), (21, .getfield 9, 3, []), (24, .iload_n 1, 1, []), (25, .iaload, 1, []), (26, .if_icmp .eq 7, 3, [33]), (29, .iconst 1, 1, []), (30, .goto 4, 3, [34]), (33, .iconst 0, 1, []), (34, .ireturn, 1, [])]
theorem tbX1_leadsOut_ok : tbOK cX1_leadsOut tbX1_leadsOut = true := by decide +kernel
def tbX1_bordersToOthers : TB := [(0, .iconst 0, 1, []), (1, .istore_n 2, 1, []), (2, .iload_n 1, 1, []), (3, .istore_n 3, 1, []), (4, .iload_n 3, 1, []), (5, .aload_n 0, 1, []), (6, .getfield 35, 3, []), (9, .invokevirtual 46, 3, []), (12, .if_icmp .ge 47, 3, [59]), (15, .iconst 0, 1, []), (16, .istore 4, 2, []), (18, .iload 4, 2, []), (20, .iconst 4, 1, []), (21, .if_icmp .ge 32, 3, [53]), (24, .aload_n 0, 1, []), (25, .getfield 9, 3, []), (28, .iload_n 3, 1, []), (29, .iaload, 1, []), (30, .iload_n 1, 1, []), (31, .if_icmp .ne 16, 3, [47]), (34, .aload_n 0, 1, []), (35, .iload_n 3, 1, []), (36, .iload 4, 2, []), (38, .invokevirtual 101, 3, []), (41, .ifCond .eq 6, 3, [47]), (44, .iinc 2 1, 3, []), (47, .iinc 4 1, 3, []), (50, .goto (-32), 3, [18]), (53, .iinc 3 1, 3, []), (56, .goto (-52), 3, [4]), (59, .iload_n 2, 1, []), (60, .ireturn, 1, [])]
theorem tbX1_bordersToOthers_ok : tbOK cX1_bordersToOthers tbX1_bordersToOthers = true := by decide +kernel
def tbX1_bordersToNothing : TB := [(0, .iconst 0, 1, []), (1, .istore_n 2, 1, []), (2, .iload_n 1, 1, []), (3, .istore_n 3, 1, []), (4, .iload_n 3, 1, []), (5, .aload_n 0, 1, []), (6, .getfield 35, 3, []), (9, .invokevirtual 46, 3, []), (12, .if_icmp .ge 52, 3, [64]), (15, .iconst 0, 1, []), (16, .istore 4, 2, []), (18, .iload 4, 2, []), (20, .iconst 4, 1, []), (21, .if_icmp .ge 37, 3, [58]), (24, .aload_n 0, 1, []), (25, .getfield 9, 3, []), (28, .iload_n 3, 1, []), (29, .iaload, 1, []), (30, .iload_n 1, 1, []), (31, .if_icmp .ne 21, 3, [52]), (34, .aload_n 0, 1, []), (35, .getfield 35, 3, []), (38, .iload_n 3, 1, []), (39, .iload 4, 2, []), (41, .invokevirtual 75, 3, []), (44, .bipush (-5), 2, []), (46, .if_icmp .ne 6, 3, [52]), (49, .iinc 2 1, 3, []), (52, .iinc 4 1, 3, []), (55, .goto (-37), 3, [18]), (58, .iinc 3 1, 3, []), (61, .goto (-57), 3, [4]), (64, .iload_n 2, 1, []), (65, .ireturn, 1, [])]
theorem tbX1_bordersToNothing_ok : tbOK cX1_bordersToNothing tbX1_bordersToNothing = true := by decide +kernel
def tbX1_loopOver : TB := [(0, .aload_n 0, 1, []), (1, .getfield 35, 3, []), (4, .iload_n 1, 1, []), (5, .iload_n 2, 1, []), (6, .invokevirtual 75, 3, []), (9, .istore_n 3, 1, []), (10, .iload_n 3, 1, []), (11, .ifCond .lt 18, 3, [29]), (14, .aload_n 0, 1, []), (15, .getfield 9, 3, []), (18, .iload_n 3, 1, []), (19, .iaload, 1, []), (20, .aload_n 0, 1, []), (21, .getfield 9, 3, []), (24, .iload_n 1, 1, []), (25, .iaload, 1, []), (26, .if_icmp .eq 5, 3, [31]), (29, .iconst 0, 1, []), (30, .ireturn, 1, []), (31, .aload_n 0, 1, []), (32, .getfield 21, 3, []), (35, .iload_n 1, 1, []), (36, .iaload, 1, []), (37, .aload_n 0, 1, []), (38, .getfield 35, 3, []), (41, .iload_n 1, 1, []), (42, .iload_n 2, 1, []), (43, .invokevirtual 79, 3, []), (46, .ixor, 1, []), (47, .aload_n 0, 1, []), (48, .getfield 21, 3, []), (51, .iload_n 3, 1, []), (52, .iaload, 1, []), (53, .ixor, 1, []), (54, .ireturn, 1, [])]
theorem tbX1_loopOver_ok : tbOK cX1_loopOver tbX1_loopOver = true := by decide +kernel
def tbX1_loops : TB := [(0, .iconst 1, 1, []), (1, .istore_n 2, 1, []), (2, .iload_n 1, 1, []), (3, .istore_n 3, 1, []), (4, .iload_n 3, 1, []), (5, .aload_n 0, 1, []), (6, .getfield 35, 3, []), (9, .invokevirtual 46, 3, []), (12, .if_icmp .ge 48, 3, [60]), (15, .iconst 0, 1, []), (16, .istore 4, 2, []), (18, .iload 4, 2, []), (20, .iconst 4, 1, []), (21, .if_icmp .ge 33, 3, [54]), (24, .aload_n 0, 1, []), (25, .getfield 9, 3, []), (28, .iload_n 3, 1, []), (29, .iaload, 1, []), (30, .iload_n 1, 1, []), (31, .if_icmp .ne 17, 3, [48]), (34, .iload_n 2, 1, []), (35, .aload_n 0, 1, []), (36, .iload_n 3, 1, []), (37, .iload 4, 2, []), (39, .invokevirtual 105, 3, []), (42, .iconst 3, 1, []), (43, .iand, 1, []), (44, .invokestatic 108, 3, []), (47, .istore_n 2, 1, []), (48, .iinc 4 1, 3, []), (51, .goto (-33), 3, [18]), (54, .iinc 3 1, 3, []), (57, .goto (-53), 3, [4]), (60, .iload_n 2, 1, []), (61, .ireturn, 1, [])]
theorem tbX1_loops_ok : tbOK cX1_loops tbX1_loops = true := by decide +kernel
def tbX1_withLoop : TB := [(0, .iload_n 0, 1, []), (1, .istore_n 2, 1, []), (2, .iconst 0, 1, []), (3, .istore_n 3, 1, []), (4, .iload_n 3, 1, []), (5, .iconst 4, 1, []), (6, .if_icmp .ge 26, 3, [32]), (9, .iload_n 0, 1, []), (10, .iload_n 3, 1, []), (11, .ishr, 1, []), (12, .iconst 1, 1, []), (13, .iand, 1, []), (14, .iconst 1, 1, []), (15, .if_icmp .ne 11, 3, [26]), (18, .iload_n 2, 1, []), (19, .iconst 1, 1, []), (20, .iload_n 3, 1, []), (21, .iload_n 1, 1, []), (22, .ixor, 1, []), (23, .ishl, 1, []), (24, .ior, 1, []), (25, .istore_n 2, 1, []), (26, .iinc 3 1, 3, []), (29, .goto (-25), 3, [4]), (32, .iload_n 2, 1, []), (33, .ireturn, 1, [])]
theorem tbX1_withLoop_ok : tbOK cX1_withLoop tbX1_withLoop = true := by decide +kernel
def tbX1_isOneSided : TB := [(0, .iload_n 1, 1, []), (1, .istore_n 2, 1, []), (2, .iload_n 2, 1, []), (3, .aload_n 0, 1, []), (4, .getfield 35, 3, []), (7, .invokevirtual 46, 3, []), (10, .if_icmp .ge 45, 3, [55]), (13, .iconst 0, 1, []), (14, .istore_n 3, 1, []), (15, .iload_n 3, 1, []), (16, .iconst 4, 1, []), (17, .if_icmp .ge 32, 3, [49]), (20, .aload_n 0, 1, []), (21, .getfield 9, 3, []), (24, .iload_n 2, 1, []), (25, .iaload, 1, []), (26, .iload_n 1, 1, []), (27, .if_icmp .ne 16, 3, [43]), (30, .aload_n 0, 1, []), (31, .iload_n 2, 1, []), (32, .iload_n 3, 1, []), (33, .invokevirtual 105, 3, []), (36, .iconst 4, 1, []), (37, .iand, 1, []), (38, .ifCond .eq 5, 3, [43]), (41, .iconst 1, 1, []), (42, .ireturn, 1, []), (43, .iinc 3 1, 3, []), (46, .goto (-31), 3, [15]), (49, .iinc 2 1, 3, []), (52, .goto (-50), 3, [2]), (55, .iconst 0, 1, []), (56, .ireturn, 1, [])]
theorem tbX1_isOneSided_ok : tbOK cX1_isOneSided tbX1_isOneSided = true := by decide +kernel
def tbX1_partsBeside : TB := [(0, .iconst 0, 1, []), (1, .istore_n 2, 1, []), (2, .iload_n 2, 1, []), (3, .aload_n 0, 1, []), (4, .getfield 35, 3, []), (7, .invokevirtual 46, 3, []), (10, .if_icmp .ge 16, 3, [26]), (13, .aload_n 0, 1, []), (14, .getfield 24, 3, []), (17, .iload_n 2, 1, []), (18, .iconst 0, 1, []), (19, .bastore, 1, []), (20, .iinc 2 1, 3, []), (23, .goto (-21), 3, [2]), (26, .iconst 0, 1, []), (27, .istore_n 2, 1, []), (28, .iload_n 1, 1, []), (29, .istore_n 3, 1, []), (30, .iload_n 3, 1, []), (31, .aload_n 0, 1, []), (32, .getfield 35, 3, []), (35, .invokevirtual 46, 3, []), (38, .if_icmp .ge 64, 3, [102]), (41, .iconst 0, 1, []), (42, .istore 4, 2, []), (44, .iload 4, 2, []), (46, .iconst 4, 1, []), (47, .if_icmp .ge 49, 3, [96]), (50, .aload_n 0, 1, []), (51, .getfield 9, 3, []), (54, .iload_n 3, 1, []), (55, .iaload, 1, []), (56, .iload_n 1, 1, []), (57, .if_icmp .ne 33, 3, [90]), (60, .aload_n 0, 1, []), (61, .iload_n 3, 1, []), (62, .iload 4, 2, []), (64, .invokevirtual 101, 3, []), (67, .ifCond .eq 23, 3, [90]), (70, .aload_n 0, 1, []), (71, .aload_n 0, 1, []), (72, .getfield 35, 3, []), (75, .iload_n 3, 1, []), (76, .iload 4, 2, []), (78, .invokevirtual 75, 3, []), (81, .invokevirtual 111, 3, []), (84, .ifCond .eq 6, 3, [90]), (87, .iinc 2 1, 3, []), (90, .iinc 4 1, 3, []), (93, .goto (-49), 3, [44]), (96, .iinc 3 1, 3, []), (99, .goto (-69), 3, [30]), (102, .iload_n 2, 1, []), (103, .ireturn, 1, [])]
theorem tbX1_partsBeside_ok : tbOK cX1_partsBeside tbX1_partsBeside = true := by decide +kernel
def tbX1_isFirstMeeting : TB := [(0, .aload_n 0, 1, []), (1, .getfield 9, 3, []), (4, .iload_n 1, 1, []), (5, .iaload, 1, []), (6, .istore_n 2, 1, []), (7, .aload_n 0, 1, []), (8, .getfield 24, 3, []), (11, .iload_n 2, 1, []), (12, .baload, 1, []), (13, .ifCond .ne 7, 3, [20]), (16, .iconst 1, 1, []), (17, .goto 4, 3, [21]), (20, .iconst 0, 1, []), (21, .istore_n 3, 1, []), (22, .aload_n 0, 1, []), (23, .getfield 24, 3, []), (26, .iload_n 2, 1, []), (27, .iconst 1, 1, []), (28, .bastore, 1, []), (29, .iload_n 3, 1, []), (30, .ireturn, 1, [])]
theorem tbX1_isFirstMeeting_ok : tbOK cX1_isFirstMeeting tbX1_isFirstMeeting = true := by decide +kernel
def tbX1_greatestDepth : TB := [(0, .iconst 0, 1, []), (1, .istore_n 2, 1, []), (2, .iload_n 1, 1, []), (3, .istore_n 3, 1, []), (4, .iload_n 3, 1, []), (5, .aload_n 0, 1, []), (6, .getfield 35, 3, []), (9, .invokevirtual 46, 3, []), (12, .if_icmp .ge 36, 3, [48]), (15, .aload_n 0, 1, []), (16, .getfield 9, 3, []), (19, .iload_n 3, 1, []), (20, .iaload, 1, []), (21, .iload_n 1, 1, []), (22, .if_icmp .ne 20, 3, [42]), (25, .aload_n 0, 1, []), (26, .getfield 18, 3, []), (29, .iload_n 3, 1, []), (30, .iaload, 1, []), (31, .iload_n 2, 1, []), (32, .if_icmp .le 10, 3, [42]), (35, .aload_n 0, 1, []), (36, .getfield 18, 3, []), (39, .iload_n 3, 1, []), (40, .iaload, 1, []), (41, .istore_n 2, 1, []), (42, .iinc 3 1, 3, []), (45, .goto (-41), 3, [4]), (48, .iload_n 2, 1, []), (49, .ireturn, 1, [])]
theorem tbX1_greatestDepth_ok : tbOK cX1_greatestDepth tbX1_greatestDepth = true := by decide +kernel
def tbX2_style : TB := [(0, .aload_n 0, 1, []), (1, .getfield 9, 3, []), (4, .ireturn, 1, [])]
theorem tbX2_style_ok : tbOK cX2_style tbX2_style = true := by decide +kernel
def tbX2_offset : TB := [(0, .aload_n 0, 1, []), (1, .getfield 15, 3, []), (4, .ireturn, 1, [])]
theorem tbX2_offset_ok : tbOK cX2_offset tbX2_offset = true := by decide +kernel
def tbX2_change : TB := [(0, .aload_n 0, 1, []), (1, .getfield 9, 3, []), (4, .iload_n 1, 1, []), (5, .if_icmp .ne 11, 3, [16]), (8, .aload_n 0, 1, []), (9, .getfield 15, 3, []), (12, .iload_n 2, 1, []), (13, .if_icmp .eq 7, 3, [20]), (16, .iconst 1, 1, []), (17, .goto 4, 3, [21]), (20, .iconst 0, 1, []), (21, .istore_n 3, 1, []), (22, .aload_n 0, 1, []), (23, .iload_n 1, 1, []), (24, .putfield 9, 3, []), (27, .aload_n 0, 1, []), (28, .iload_n 2, 1, []), (29, .putfield 15, 3, []), (32, .iload_n 3, 1, []), (33, .ireturn, 1, [])]
theorem tbX2_change_ok : tbOK cX2_change tbX2_change = true := by decide +kernel
def tbX2_crossing : TB := [(0, .aload_n 0, 1, []), (1, .getfield 9, 3, []), (4, .iconst 2, 1, []), (5, .if_icmp .ne 9, 3, [14]), (8, .iload_n 1, 1, []), (9, .iconst 4, 1, []), (10, .ior, 1, []), (11, .goto 4, 3, [15]), (14, .iload_n 1, 1, []), (15, .ireturn, 1, [])]
theorem tbX2_crossing_ok : tbOK cX2_crossing tbX2_crossing = true := by decide +kernel
def tbX2_placeBeyond : TB := [(0, .aload_n 0, 1, []), (1, .getfield 9, 3, []), (4, .iconst 2, 1, []), (5, .if_icmp .ne 12, 3, [17]), (8, .aload_n 0, 1, []), (9, .getfield 15, 3, []), (12, .iload_n 1, 1, []), (13, .isub, 1, []), (14, .goto 9, 3, [23]), (17, .iload_n 1, 1, []), (18, .aload_n 0, 1, []), (19, .getfield 15, 3, []), (22, .iadd, 1, []), (23, .iload_n 2, 1, []), (24, .invokestatic 18, 3, []), (27, .ireturn, 1, [])]
theorem tbX2_placeBeyond_ok : tbOK cX2_placeBeyond tbX2_placeBeyond = true := by decide +kernel
def tbX2_modulo : TB := [(0, .iload_n 0, 1, []), (1, .ifCond .ge 7, 3, [8]), (4, .iload_n 0, 1, []), (5, .iload_n 1, 1, []), (6, .iadd, 1, []), (7, .ireturn, 1, []), (8, .iload_n 0, 1, []), (9, .iload_n 1, 1, []), (10, .if_icmp .ge 7, 3, [17]), (13, .iload_n 0, 1, []), (14, .goto 6, 3, [20]), (17, .iload_n 0, 1, []), (18, .iload_n 1, 1, []), (19, .isub, 1, []), (20, .ireturn, 1, [])]
theorem tbX2_modulo_ok : tbOK cX2_modulo tbX2_modulo = true := by decide +kernel
def tbX3_columns : TB := [(0, .aload_n 0, 1, []), (1, .getfield 28, 3, []), (4, .ireturn, 1, [])]
theorem tbX3_columns_ok : tbOK cX3_columns tbX3_columns = true := by decide +kernel
def tbX3_rows : TB := [(0, .aload_n 0, 1, []), (1, .getfield 32, 3, []), (4, .ireturn, 1, [])]
theorem tbX3_rows_ok : tbOK cX3_rows tbX3_rows = true := by decide +kernel
def tbX3_tiles : TB := [(0, .aload_n 0, 1, []), (1, .getfield 28, 3, []), (4, .aload_n 0, 1, []), (5, .getfield 32, 3, []), (8, .imul, 1, []), (9, .ireturn, 1, [])]
theorem tbX3_tiles_ok : tbOK cX3_tiles tbX3_tiles = true := by decide +kernel
def tbX3_sideSeam : TB := [(0, .aload_n 0, 1, []), (1, .getfield 12, 3, []), (4, .areturn, 1, [])]
theorem tbX3_sideSeam_ok : tbOK cX3_sideSeam tbX3_sideSeam = true := by decide +kernel
def tbX3_endSeam : TB := [(0, .aload_n 0, 1, []), (1, .getfield 18, 3, []), (4, .areturn, 1, [])]
theorem tbX3_endSeam_ok : tbOK cX3_endSeam tbX3_endSeam = true := by decide +kernel
def tbX3_has : TB := [(0, .iload_n 1, 1, []), (1, .ifCond .lt 15, 3, [16]), (4, .iload_n 1, 1, []), (5, .aload_n 0, 1, []), (6, .invokevirtual 35, 3, []), (9, .if_icmp .ge 7, 3, [16]), (12, .iconst 1, 1, []), (13, .goto 4, 3, [17]), (16, .iconst 0, 1, []), (17, .ireturn, 1, [])]
theorem tbX3_has_ok : tbOK cX3_has tbX3_has = true := by decide +kernel
def tbX3_next : TB := [(0, .aload_n 0, 1, []), (1, .getfield 21, 3, []), (4, .iload_n 1, 1, []), (5, .iconst 4, 1, []), (6, .imul, 1, []), (7, .iload_n 2, 1, []), (8, .iadd, 1, []), (9, .iaload, 1, []), (10, .ireturn, 1, [])]
theorem tbX3_next_ok : tbOK cX3_next tbX3_next = true := by decide +kernel
def tbX3_crossing : TB := [(0, .aload_n 0, 1, []), (1, .getfield 25, 3, []), (4, .iload_n 1, 1, []), (5, .iconst 4, 1, []), (6, .imul, 1, []), (7, .iload_n 2, 1, []), (8, .iadd, 1, []), (9, .iaload, 1, []), (10, .ireturn, 1, [])]
theorem tbX3_crossing_ok : tbOK cX3_crossing tbX3_crossing = true := by decide +kernel
def tbX3_openBorders : TB := [(0, .iconst 0, 1, []), (1, .istore_n 1, 1, []), (2, .iconst 0, 1, []), (3, .istore_n 2, 1, []), (4, .iload_n 2, 1, []), (5, .aload_n 0, 1, []), (6, .invokevirtual 35, 3, []), (9, .iconst 4, 1, []), (10, .imul, 1, []), (11, .if_icmp .ge 23, 3, [34]), (14, .aload_n 0, 1, []), (15, .getfield 21, 3, []), (18, .iload_n 2, 1, []), (19, .iaload, 1, []), (20, .bipush (-5), 2, []), (22, .if_icmp .eq 6, 3, [28]), (25, .iinc 1 1, 3, []), (28, .iinc 2 1, 3, []), (31, .goto (-27), 3, [4]), (34, .iload_n 1, 1, []), (35, .ireturn, 1, [])]
theorem tbX3_openBorders_ok : tbOK cX3_openBorders tbX3_openBorders = true := by decide +kernel
def tbX3_begin : TB := [(0, .aload_n 0, 1, []), (1, .iload_n 1, 1, []), (2, .putfield 28, 3, []), (5, .aload_n 0, 1, []), (6, .iload_n 2, 1, []), (7, .putfield 32, 3, []), (10, .aload_n 0, 1, []), (11, .getfield 12, 3, []), (14, .iconst 0, 1, []), (15, .iconst 0, 1, []), (16, .invokevirtual 39, 3, []), (19, .pop, 1, []), (20, .aload_n 0, 1, []), (21, .getfield 18, 3, []), (24, .iconst 0, 1, []), (25, .iconst 0, 1, []), (26, .invokevirtual 39, 3, []), (29, .pop, 1, []), (30, .aload_n 0, 1, []), (31, .invokevirtual 43, 3, []), (34, .return_, 1, [])]
theorem tbX3_begin_ok : tbOK cX3_begin tbX3_begin = true := by decide +kernel
def tbX3_changeSeam : TB := [(0, .iload_n 1, 1, []), (1, .ifCond .eq 10, 3, [11]), (4, .aload_n 0, 1, []), (5, .getfield 18, 3, []), (8, .goto 7, 3, [15]), (11, .aload_n 0, 1, []), (12, .getfield 12, 3, []), (15, .astore 4, 2, []), (17, .aload 4, 2, []), (19, .iload_n 2, 1, []), (20, .iload_n 3, 1, []), (21, .invokevirtual 39, 3, []), (24, .ifCond .ne 5, 3, [29]), (27, .iconst 0, 1, []), (28, .ireturn, 1, []), (29, .aload_n 0, 1, []), (30, .invokevirtual 43, 3, []), (33, .iconst 1, 1, []), (34, .ireturn, 1, [])]
theorem tbX3_changeSeam_ok : tbOK cX3_changeSeam tbX3_changeSeam = true := by decide +kernel
def tbX3_joinTiles : TB := [(0, .iconst 0, 1, []), (1, .istore_n 1, 1, []), (2, .iload_n 1, 1, []), (3, .aload_n 0, 1, []), (4, .invokevirtual 35, 3, []), (7, .iconst 4, 1, []), (8, .imul, 1, []), (9, .if_icmp .ge 24, 3, [33]), (12, .aload_n 0, 1, []), (13, .getfield 21, 3, []), (16, .iload_n 1, 1, []), (17, .bipush (-5), 2, []), (19, .iastore, 1, []), (20, .aload_n 0, 1, []), (21, .getfield 25, 3, []), (24, .iload_n 1, 1, []), (25, .iconst 0, 1, []), (26, .iastore, 1, []), (27, .iinc 1 1, 3, []), (30, .goto (-28), 3, [2]), (33, .aload_n 0, 1, []), (34, .invokevirtual 46, 3, []), (37, .aload_n 0, 1, []), (38, .invokevirtual 49, 3, []), (41, .aload_n 0, 1, []), (42, .invokevirtual 52, 3, []), (45, .return_, 1, [])]
theorem tbX3_joinTiles_ok : tbOK cX3_joinTiles tbX3_joinTiles = true := by decide +kernel
def tbX3_joinInside : TB := [(0, .iconst 0, 1, []), (1, .istore_n 1, 1, []), (2, .iload_n 1, 1, []), (3, .aload_n 0, 1, []), (4, .getfield 32, 3, []), (7, .if_icmp .ge 77, 3, [84]), (10, .iconst 0, 1, []), (11, .istore_n 2, 1, []), (12, .iload_n 2, 1, []), (13, .aload_n 0, 1, []), (14, .getfield 28, 3, []), (17, .if_icmp .ge 61, 3, [78]), (20, .iload_n 1, 1, []), (21, .aload_n 0, 1, []), (22, .getfield 28, 3, []), (25, .imul, 1, []), (26, .iload_n 2, 1, []), (27, .iadd, 1, []), (28, .istore_n 3, 1, []), (29, .iload_n 2, 1, []), (30, .aload_n 0, 1, []), (31, .getfield 28, 3, []), (34, .iconst 1, 1, []), (35, .isub, 1, []), (36, .if_icmp .ge 13, 3, [49]), (39, .aload_n 0, 1, []), (40, .iload_n 3, 1, []), (41, .iconst 0, 1, []), (42, .iload_n 3, 1, []), (43, .iconst 1, 1, []), (44, .iadd, 1, []), (45, .iconst 0, 1, []), (46, .invokevirtual 55, 3, []), (49, .iload_n 1, 1, []), (50, .aload_n 0, 1, []), (51, .getfield 32, 3, []), (54, .iconst 1, 1, []), (55, .isub, 1, []), (56, .if_icmp .ge 16, 3, [72]), (59, .aload_n 0, 1, []), (60, .iload_n 3, 1, []), (61, .iconst 1, 1, []), (62, .iload_n 3, 1, []), (63, .aload_n 0, 1, []), (64, .getfield 28, 3, []), (67, .iadd, 1, []), (68, .iconst 0, 1, []), (69, .invokevirtual 55, 3, []), (72, .iinc 2 1, 3, []), (75, .goto (-63), 3, [12]), (78, .iinc 1 1, 3, []), (81, .goto (-79), 3, [2]), (84, .return_, 1, [])]
theorem tbX3_joinInside_ok : tbOK cX3_joinInside tbX3_joinInside = true := by decide +kernel
def tbX3_joinSide : TB := [(0, .aload_n 0, 1, []), (1, .getfield 12, 3, []), (4, .invokevirtual 59, 3, []), (7, .ifCond .ne 4, 3, [11]), (10, .return_, 1, []), (11, .iconst 0, 1, []), (12, .istore_n 1, 1, []), (13, .iload_n 1, 1, []), (14, .aload_n 0, 1, []), (15, .getfield 32, 3, []), (18, .if_icmp .ge 56, 3, [74]), (21, .iload_n 1, 1, []), (22, .aload_n 0, 1, []), (23, .getfield 28, 3, []), (26, .imul, 1, []), (27, .aload_n 0, 1, []), (28, .getfield 28, 3, []), (31, .iadd, 1, []), (32, .iconst 1, 1, []), (33, .isub, 1, []), (34, .istore_n 2, 1, []), (35, .aload_n 0, 1, []), (36, .getfield 12, 3, []), (39, .iload_n 1, 1, []), (40, .aload_n 0, 1, []), (41, .getfield 32, 3, []), (44, .invokevirtual 62, 3, []), (47, .aload_n 0, 1, []), (48, .getfield 28, 3, []), (51, .imul, 1, []), (52, .istore_n 3, 1, []), (53, .aload_n 0, 1, []), (54, .iload_n 2, 1, []), (55, .iconst 0, 1, []), (56, .iload_n 3, 1, []), (57, .aload_n 0, 1, []), (58, .getfield 12, 3, []), (61, .iconst 1, 1, []), (62, .invokevirtual 66, 3, []), (65, .invokevirtual 55, 3, []), (68, .iinc 1 1, 3, []), (71, .goto (-58), 3, [13]), (74, .return_, 1, [])]
theorem tbX3_joinSide_ok : tbOK cX3_joinSide tbX3_joinSide = true := by decide +kernel
def tbX3_joinEnd : TB := [(0, .aload_n 0, 1, []), (1, .getfield 18, 3, []), (4, .invokevirtual 59, 3, []), (7, .ifCond .ne 4, 3, [11]), (10, .return_, 1, []), (11, .iconst 0, 1, []), (12, .istore_n 1, 1, []), (13, .iload_n 1, 1, []), (14, .aload_n 0, 1, []), (15, .getfield 28, 3, []), (18, .if_icmp .ge 51, 3, [69]), (21, .aload_n 0, 1, []), (22, .getfield 32, 3, []), (25, .iconst 1, 1, []), (26, .isub, 1, []), (27, .aload_n 0, 1, []), (28, .getfield 28, 3, []), (31, .imul, 1, []), (32, .iload_n 1, 1, []), (33, .iadd, 1, []), (34, .istore_n 2, 1, []), (35, .aload_n 0, 1, []), (36, .getfield 18, 3, []), (39, .iload_n 1, 1, []), (40, .aload_n 0, 1, []), (41, .getfield 28, 3, []), (44, .invokevirtual 62, 3, []), (47, .istore_n 3, 1, []), (48, .aload_n 0, 1, []), (49, .iload_n 2, 1, []), (50, .iconst 1, 1, []), (51, .iload_n 3, 1, []), (52, .aload_n 0, 1, []), (53, .getfield 18, 3, []), (56, .iconst 2, 1, []), (57, .invokevirtual 66, 3, []), (60, .invokevirtual 55, 3, []), (63, .iinc 1 1, 3, []), (66, .goto (-53), 3, [13]), (69, .return_, 1, [])]
theorem tbX3_joinEnd_ok : tbOK cX3_joinEnd tbX3_joinEnd = true := by decide +kernel
def tbX3_join : TB := [(0, .iload_n 1, 1, []), (1, .iconst 4, 1, []), (2, .imul, 1, []), (3, .iload_n 2, 1, []), (4, .iadd, 1, []), (5, .istore 5, 2, []), (7, .iload_n 3, 1, []), (8, .iconst 4, 1, []), (9, .imul, 1, []), (10, .iload_n 2, 1, []), (11, .ifCond .ne 7, 3, [18]), (14, .iconst 2, 1, []), (15, .goto 4, 3, [19]), (18, .iconst 3, 1, []), (19, .iadd, 1, []), (20, .istore 6, 2, []), (22, .aload_n 0, 1, []), (23, .getfield 21, 3, []), (26, .iload 5, 2, []), (28, .iload_n 3, 1, []), (29, .iastore, 1, []), (30, .aload_n 0, 1, []), (31, .getfield 21, 3, []), (34, .iload 6, 2, []), (36, .iload_n 1, 1, []), (37, .iastore, 1, []), (38, .aload_n 0, 1, []), (39, .getfield 25, 3, []), (42, .iload 5, 2, []), (44, .iload 4, 2, []), (46, .iastore, 1, []), (47, .aload_n 0, 1, []), (48, .getfield 25, 3, []), (51, .iload 6, 2, []), (53, .iload 4, 2, []), (55, .iastore, 1, []), (56, .return_, 1, [])]
theorem tbX3_join_ok : tbOK cX3_join tbX3_join = true := by decide +kernel
def tbX4_length : TB := [(0, .aload_n 0, 1, []), (1, .getfield 15, 3, []), (4, .ireturn, 1, [])]
theorem tbX4_length_ok : tbOK cX4_length tbX4_length = true := by decide +kernel
def tbX4_at : TB := [(0, .aload_n 0, 1, []), (1, .getfield 9, 3, []), (4, .iload_n 1, 1, []), (5, .caload, 1, []), (6, .ireturn, 1, [])]
theorem tbX4_at_ok : tbOK cX4_at tbX4_at = true := by decide +kernel
def tbX4_append : TB := [(0, .aload_n 0, 1, []), (1, .getfield 15, 3, []), (4, .sipush 160, 3, []), (7, .if_icmp .lt 6, 3, [13]), (10, .bipush (-3), 2, []), (12, .ireturn, 1, []), (13, .aload_n 0, 1, []), (14, .getfield 9, 3, []), (17, .aload_n 0, 1, []), (18, .getfield 15, 3, []), (21, .iload_n 1, 1, []), (22, .castore, 1, []), (23, .aload_n 0, 1, []), (24, .dup, 1, []), (25, .getfield 15, 3, []), (28, .iconst 1, 1, []), (29, .iadd, 1, []), (30, .putfield 15, 3, []), (33, .aload_n 0, 1, []), (34, .getfield 15, 3, []), (37, .ireturn, 1, [])]
theorem tbX4_append_ok : tbOK cX4_append tbX4_append = true := by decide +kernel
def tbX4_empty : TB := [(0, .aload_n 0, 1, []), (1, .getfield 15, 3, []), (4, .istore_n 1, 1, []), (5, .aload_n 0, 1, []), (6, .iconst 0, 1, []), (7, .putfield 15, 3, []), (10, .iload_n 1, 1, []), (11, .ireturn, 1, [])]
theorem tbX4_empty_ok : tbOK cX4_empty tbX4_empty = true := by decide +kernel
def tbX4_faultAsTiles : TB := [(0, .iload_n 2, 1, []), (1, .iload_n 1, 1, []), (2, .iconst 1, 1, []), (3, .iadd, 1, []), (4, .imul, 1, []), (5, .iconst 1, 1, []), (6, .isub, 1, []), (7, .istore_n 3, 1, []), (8, .iconst 0, 1, []), (9, .istore 4, 2, []), (11, .iconst 0, 1, []), (12, .istore 5, 2, []), (14, .iload 5, 2, []), (16, .aload_n 0, 1, []), (17, .getfield 15, 3, []), (20, .if_icmp .ge 58, 3, [78]), (23, .iload 5, 2, []), (25, .iload_n 3, 1, []), (26, .if_icmp .ge 27, 3, [53]), (29, .aload_n 0, 1, []), (30, .getfield 9, 3, []), (33, .iload 5, 2, []), (35, .caload, 1, []), (36, .iload 4, 2, []), (38, .iload_n 1, 1, []), (39, .if_icmp .ne 7, 3, [46]), (42, .iconst 1, 1, []), (43, .goto 4, 3, [47]), (46, .iconst 0, 1, []), (47, .invokestatic 19, 3, []), (50, .ifCond .ne 6, 3, [56]), (53, .iload 5, 2, []), (55, .ireturn, 1, []), (56, .iload 4, 2, []), (58, .iload_n 1, 1, []), (59, .if_icmp .ne 7, 3, [66]), (62, .iconst 0, 1, []), (63, .goto 7, 3, [70]), (66, .iload 4, 2, []), (68, .iconst 1, 1, []), (69, .iadd, 1, []), (70, .istore 4, 2, []), (72, .iinc 5 1, 3, []), (75, .goto (-61), 3, [14]), (78, .aload_n 0, 1, []), (79, .getfield 15, 3, []), (82, .iload_n 3, 1, []), (83, .if_icmp .ge 10, 3, [93]), (86, .aload_n 0, 1, []), (87, .getfield 15, 3, []), (90, .goto 4, 3, [94]), (93, .iconst (-1), 1, []), (94, .ireturn, 1, [])]
theorem tbX4_faultAsTiles_ok : tbOK cX4_faultAsTiles tbX4_faultAsTiles = true := by decide +kernel
def tbX4_isFitting : TB := [(0, .iload_n 1, 1, []), (1, .ifCond .eq 17, 3, [18]), (4, .iload_n 0, 1, []), (5, .bipush 47, 2, []), (7, .if_icmp .ne 7, 3, [14]), (10, .iconst 1, 1, []), (11, .goto 24, 3, [35]), (14, .iconst 0, 1, []), (15, .goto 20, 3, [35]), (18, .iload_n 0, 1, []), (19, .bipush 48, 2, []), (21, .if_icmp .lt 13, 3, [34]), (24, .iload_n 0, 1, []), (25, .bipush 53, 2, []), (27, .if_icmp .gt 7, 3, [34]), (30, .iconst 1, 1, []), (31, .goto 4, 3, [35]), (34, .iconst 0, 1, []), (35, .ireturn, 1, [])]
theorem tbX4_isFitting_ok : tbOK cX4_isFitting tbX4_isFitting = true := by decide +kernel
def tbX4_kindAt : TB := [(0, .aload_n 0, 1, []), (1, .getfield 9, 3, []), (4, .iload_n 2, 1, []), (5, .iload_n 3, 1, []), (6, .iconst 1, 1, []), (7, .iadd, 1, []), (8, .imul, 1, []), (9, .iload_n 1, 1, []), (10, .iadd, 1, []), (11, .caload, 1, []), (12, .bipush 48, 2, []), (14, .isub, 1, []), (15, .ireturn, 1, [])]
theorem tbX4_kindAt_ok : tbOK cX4_kindAt tbX4_kindAt = true := by decide +kernel
def tbX4_faultAsWalk : TB := [(0, .iconst 0, 1, []), (1, .istore_n 1, 1, []), (2, .iload_n 1, 1, []), (3, .aload_n 0, 1, []), (4, .getfield 15, 3, []), (7, .if_icmp .ge 36, 3, [43]), (10, .aload_n 0, 1, []), (11, .getfield 9, 3, []), (14, .iload_n 1, 1, []), (15, .caload, 1, []), (16, .istore_n 2, 1, []), (17, .iload_n 2, 1, []), (18, .bipush 102, 2, []), (20, .if_icmp .eq 17, 3, [37]), (23, .iload_n 2, 1, []), (24, .bipush 114, 2, []), (26, .if_icmp .eq 11, 3, [37]), (29, .iload_n 2, 1, []), (30, .bipush 108, 2, []), (32, .if_icmp .eq 5, 3, [37]), (35, .iload_n 1, 1, []), (36, .ireturn, 1, []), (37, .iinc 1 1, 3, []), (40, .goto (-38), 3, [2]), (43, .iconst (-1), 1, []), (44, .ireturn, 1, [])]
theorem tbX4_faultAsWalk_ok : tbOK cX4_faultAsWalk tbX4_faultAsWalk = true := by decide +kernel
def tbX5_number : TB := [(0, .aload_n 0, 1, []), (1, .getfield 15, 3, []), (4, .ireturn, 1, [])]
theorem tbX5_number_ok : tbOK cX5_number tbX5_number = true := by decide +kernel
def tbX5_at : TB := [(0, .aload_n 0, 1, []), (1, .getfield 9, 3, []), (4, .iload_n 1, 1, []), (5, .iaload, 1, []), (6, .ireturn, 1, [])]
theorem tbX5_at_ok : tbOK cX5_at tbX5_at = true := by decide +kernel
def tbX5_clear : TB := [(0, .aload_n 0, 1, []), (1, .iconst 0, 1, []), (2, .putfield 15, 3, []), (5, .return_, 1, [])]
theorem tbX5_clear_ok : tbOK cX5_clear tbX5_clear = true := by decide +kernel
def tbX5_add : TB := [(0, .aload_n 0, 1, []), (1, .getfield 15, 3, []), (4, .sipush 144, 3, []), (7, .if_icmp .ge 23, 3, [30]), (10, .aload_n 0, 1, []), (11, .getfield 9, 3, []), (14, .aload_n 0, 1, []), (15, .getfield 15, 3, []), (18, .iload_n 1, 1, []), (19, .iastore, 1, []), (20, .aload_n 0, 1, []), (21, .dup, 1, []), (22, .getfield 15, 3, []), (25, .iconst 1, 1, []), (26, .iadd, 1, []), (27, .putfield 15, 3, []), (30, .return_, 1, [])]
theorem tbX5_add_ok : tbOK cX5_add tbX5_add = true := by decide +kernel
def tbX5_takeOut : TB := [(0, .aload_n 0, 1, []), (1, .getfield 9, 3, []), (4, .iload_n 1, 1, []), (5, .iaload, 1, []), (6, .istore_n 2, 1, []), (7, .aload_n 0, 1, []), (8, .dup, 1, []), (9, .getfield 15, 3, []), (12, .iconst 1, 1, []), (13, .isub, 1, []), (14, .putfield 15, 3, []), (17, .aload_n 0, 1, []), (18, .getfield 9, 3, []), (21, .iload_n 1, 1, []), (22, .aload_n 0, 1, []), (23, .getfield 9, 3, []), (26, .aload_n 0, 1, []), (27, .getfield 15, 3, []), (30, .iaload, 1, []), (31, .iastore, 1, []), (32, .iload_n 2, 1, []), (33, .ireturn, 1, [])]
theorem tbX5_takeOut_ok : tbOK cX5_takeOut tbX5_takeOut = true := by decide +kernel
def tbX6_follow : TB := [(0, .aload_n 0, 1, []), (1, .iload_n 2, 1, []), (2, .iload_n 3, 1, []), (3, .invokevirtual 19, 3, []), (6, .iconst 1, 1, []), (7, .istore 4, 2, []), (9, .iconst 0, 1, []), (10, .istore 5, 2, []), (12, .iload 5, 2, []), (14, .aload_n 1, 1, []), (15, .invokevirtual 23, 3, []), (18, .if_icmp .ge 26, 3, [44]), (21, .iload 4, 2, []), (23, .ifCond .eq 21, 3, [44]), (26, .aload_n 0, 1, []), (27, .aload_n 1, 1, []), (28, .iload 5, 2, []), (30, .invokevirtual 29, 3, []), (33, .invokevirtual 33, 3, []), (36, .istore 4, 2, []), (38, .iinc 5 1, 3, []), (41, .goto (-29), 3, [12]), (44, .return_, 1, [])]
theorem tbX6_follow_ok : tbOK cX6_follow tbX6_follow = true := by decide +kernel
def tbX6_begin : TB := [(0, .iconst 0, 1, []), (1, .istore_n 3, 1, []), (2, .iload_n 3, 1, []), (3, .sipush 144, 3, []), (6, .if_icmp .ge 16, 3, [22]), (9, .aload_n 0, 1, []), (10, .getfield 9, 3, []), (13, .iload_n 3, 1, []), (14, .iconst 0, 1, []), (15, .bastore, 1, []), (16, .iinc 3 1, 3, []), (19, .goto (-17), 3, [2]), (22, .aload_n 0, 1, []), (23, .iload_n 2, 1, []), (24, .putfield 37, 3, []), (27, .aload_n 0, 1, []), (28, .iconst 0, 1, []), (29, .putfield 41, 3, []), (32, .aload_n 0, 1, []), (33, .iconst 0, 1, []), (34, .putfield 44, 3, []), (37, .aload_n 0, 1, []), (38, .iconst 0, 1, []), (39, .putfield 47, 3, []), (42, .aload_n 0, 1, []), (43, .iload_n 1, 1, []), (44, .invokevirtual 50, 3, []), (47, .return_, 1, [])]
theorem tbX6_begin_ok : tbOK cX6_begin tbX6_begin = true := by decide +kernel
def tbX6_obey : TB := [(0, .iload_n 1, 1, []), (1, .bipush 102, 2, []), (3, .if_icmp .ne 8, 3, [11]), (6, .aload_n 0, 1, []), (7, .invokevirtual 54, 3, []), (10, .ireturn, 1, []), (11, .aload_n 0, 1, []), (12, .iload_n 1, 1, []), (13, .bipush 114, 2, []), (15, .if_icmp .ne 7, 3, [22]), (18, .iconst 1, 1, []), (19, .goto 4, 3, [23]), (22, .iconst 0, 1, []), (23, .invokevirtual 58, 3, []), (26, .iconst 1, 1, []), (27, .ireturn, 1, [])]
theorem tbX6_obey_ok : tbOK cX6_obey tbX6_obey = true := by decide +kernel
def tbX6_step : TB := [(0, .aload_n 0, 1, []), (1, .getfield 15, 3, []), (4, .aload_n 0, 1, []), (5, .getfield 62, 3, []), (8, .aload_n 0, 1, []), (9, .getfield 37, 3, []), (12, .invokevirtual 65, 3, []), (15, .istore_n 1, 1, []), (16, .iload_n 1, 1, []), (17, .ifCond .ge 5, 3, [22]), (20, .iconst 0, 1, []), (21, .ireturn, 1, []), (22, .aload_n 0, 1, []), (23, .getfield 15, 3, []), (26, .aload_n 0, 1, []), (27, .getfield 62, 3, []), (30, .aload_n 0, 1, []), (31, .getfield 37, 3, []), (34, .invokevirtual 71, 3, []), (37, .iconst 4, 1, []), (38, .iand, 1, []), (39, .ifCond .eq 13, 3, [52]), (42, .aload_n 0, 1, []), (43, .iconst 1, 1, []), (44, .aload_n 0, 1, []), (45, .getfield 41, 3, []), (48, .isub, 1, []), (49, .putfield 41, 3, []), (52, .aload_n 0, 1, []), (53, .dup, 1, []), (54, .getfield 44, 3, []), (57, .iconst 1, 1, []), (58, .iadd, 1, []), (59, .putfield 44, 3, []), (62, .aload_n 0, 1, []), (63, .iload_n 1, 1, []), (64, .invokevirtual 50, 3, []), (67, .iconst 1, 1, []), (68, .ireturn, 1, [])]
theorem tbX6_step_ok : tbOK cX6_step tbX6_step = true := by decide +kernel
def tbX6_enter : TB := [(0, .aload_n 0, 1, []), (1, .iload_n 1, 1, []), (2, .putfield 62, 3, []), (5, .aload_n 0, 1, []), (6, .getfield 9, 3, []), (9, .iload_n 1, 1, []), (10, .baload, 1, []), (11, .ifCond .ne 20, 3, [31]), (14, .aload_n 0, 1, []), (15, .getfield 9, 3, []), (18, .iload_n 1, 1, []), (19, .iconst 1, 1, []), (20, .bastore, 1, []), (21, .aload_n 0, 1, []), (22, .dup, 1, []), (23, .getfield 47, 3, []), (26, .iconst 1, 1, []), (27, .iadd, 1, []), (28, .putfield 47, 3, []), (31, .return_, 1, [])]
theorem tbX6_enter_ok : tbOK cX6_enter tbX6_enter = true := by decide +kernel
def tbX6_turn : TB := [(0, .iload_n 1, 1, []), (1, .aload_n 0, 1, []), (2, .getfield 41, 3, []), (5, .ifCond .ne 7, 3, [12]), (8, .iconst 1, 1, []), (9, .goto 4, 3, [13]), (12, .iconst 0, 1, []), (13, .if_icmp .ne 7, 3, [20]), (16, .iconst 1, 1, []), (17, .goto 4, 3, [21]), (20, .iconst 0, 1, []), (21, .istore_n 2, 1, []), (22, .iload_n 2, 1, []), (23, .ifCond .eq 28, 3, [51]), (26, .aload_n 0, 1, []), (27, .aload_n 0, 1, []), (28, .getfield 37, 3, []), (31, .iconst 3, 1, []), (32, .if_icmp .ne 7, 3, [39]), (35, .iconst 0, 1, []), (36, .goto 9, 3, [45]), (39, .aload_n 0, 1, []), (40, .getfield 37, 3, []), (43, .iconst 1, 1, []), (44, .iadd, 1, []), (45, .putfield 37, 3, []), (48, .goto 24, 3, [72]), (51, .aload_n 0, 1, []), (52, .aload_n 0, 1, []), (53, .getfield 37, 3, []), (56, .ifCond .ne 7, 3, [63]), (59, .iconst 3, 1, []), (60, .goto 9, 3, [69]), (63, .aload_n 0, 1, []), (64, .getfield 37, 3, []), (67, .iconst 1, 1, []), (68, .isub, 1, []), (69, .putfield 37, 3, []), (72, .return_, 1, [])]
theorem tbX6_turn_ok : tbOK cX6_turn tbX6_turn = true := by decide +kernel
def tbX6_tell : TB := [(0, .iload_n 1, 1, []), (1, .tableswitch 51 0 3 #[31, 36, 41, 46], 31, [52, 32, 37, 42, 47]), (32, .aload_n 0, 1, []), (33, .getfield 62, 3, []), (36, .ireturn, 1, []), (37, .aload_n 0, 1, []), (38, .getfield 37, 3, []), (41, .ireturn, 1, []), (42, .aload_n 0, 1, []), (43, .getfield 41, 3, []), (46, .ireturn, 1, []), (47, .aload_n 0, 1, []), (48, .getfield 44, 3, []), (51, .ireturn, 1, []), (52, .aload_n 0, 1, []), (53, .getfield 47, 3, []), (56, .ireturn, 1, [])]
theorem tbX6_tell_ok : tbOK cX6_tell tbX6_tell = true := by decide +kernel
def tbX7_levelWeights : TB := [(0, .iconst 0, 1, []), (1, .istore_n 1, 1, []), (2, .iload_n 1, 1, []), (3, .bipush 6, 2, []), (5, .if_icmp .ge 16, 3, [21]), (8, .aload_n 0, 1, []), (9, .getfield 9, 3, []), (12, .iload_n 1, 1, []), (13, .iconst 1, 1, []), (14, .iastore, 1, []), (15, .iinc 1 1, 3, []), (18, .goto (-16), 3, [2]), (21, .return_, 1, [])]
theorem tbX7_levelWeights_ok : tbOK cX7_levelWeights tbX7_levelWeights = true := by decide +kernel
def tbX7_changeWeight : TB := [(0, .aload_n 0, 1, []), (1, .getfield 9, 3, []), (4, .iload_n 1, 1, []), (5, .iaload, 1, []), (6, .istore_n 3, 1, []), (7, .aload_n 0, 1, []), (8, .getfield 9, 3, []), (11, .iload_n 1, 1, []), (12, .iload_n 2, 1, []), (13, .iastore, 1, []), (14, .iload_n 3, 1, []), (15, .ireturn, 1, [])]
theorem tbX7_changeWeight_ok : tbOK cX7_changeWeight tbX7_changeWeight = true := by decide +kernel
def tbX7_lengthTo : TB := [(0, .aload_n 0, 1, []), (1, .getfield 15, 3, []), (4, .iload_n 1, 1, []), (5, .iaload, 1, []), (6, .ireturn, 1, [])]
theorem tbX7_lengthTo_ok : tbOK cX7_lengthTo tbX7_lengthTo = true := by decide +kernel
def tbX7_measureFrom : TB := [(0, .iconst 0, 1, []), (1, .istore_n 2, 1, []), (2, .iload_n 2, 1, []), (3, .aload_n 0, 1, []), (4, .getfield 25, 3, []), (7, .invokevirtual 32, 3, []), (10, .if_icmp .ge 17, 3, [27]), (13, .aload_n 0, 1, []), (14, .getfield 15, 3, []), (17, .iload_n 2, 1, []), (18, .bipush (-4), 2, []), (20, .iastore, 1, []), (21, .iinc 2 1, 3, []), (24, .goto (-22), 3, [2]), (27, .aload_n 0, 1, []), (28, .getfield 21, 3, []), (31, .invokevirtual 38, 3, []), (34, .aload_n 0, 1, []), (35, .iload_n 1, 1, []), (36, .iconst 0, 1, []), (37, .invokevirtual 41, 3, []), (40, .iconst 0, 1, []), (41, .istore_n 2, 1, []), (42, .iload_n 2, 1, []), (43, .sipush 144, 3, []), (46, .if_icmp .ge 27, 3, [73]), (49, .aload_n 0, 1, []), (50, .getfield 21, 3, []), (53, .invokevirtual 45, 3, []), (56, .ifCond .le 17, 3, [73]), (59, .aload_n 0, 1, []), (60, .aload_n 0, 1, []), (61, .invokevirtual 48, 3, []), (64, .invokevirtual 51, 3, []), (67, .iinc 2 1, 3, []), (70, .goto (-28), 3, [42]), (73, .return_, 1, [])]
theorem tbX7_measureFrom_ok : tbOK cX7_measureFrom tbX7_measureFrom = true := by decide +kernel
def tbX7_takeNearestOpen : TB := [(0, .iconst 0, 1, []), (1, .istore_n 1, 1, []), (2, .iconst 1, 1, []), (3, .istore_n 2, 1, []), (4, .iload_n 2, 1, []), (5, .aload_n 0, 1, []), (6, .getfield 21, 3, []), (9, .invokevirtual 45, 3, []), (12, .if_icmp .ge 40, 3, [52]), (15, .aload_n 0, 1, []), (16, .getfield 15, 3, []), (19, .aload_n 0, 1, []), (20, .getfield 21, 3, []), (23, .iload_n 2, 1, []), (24, .invokevirtual 55, 3, []), (27, .iaload, 1, []), (28, .aload_n 0, 1, []), (29, .getfield 15, 3, []), (32, .aload_n 0, 1, []), (33, .getfield 21, 3, []), (36, .iload_n 1, 1, []), (37, .invokevirtual 55, 3, []), (40, .iaload, 1, []), (41, .if_icmp .ge 5, 3, [46]), (44, .iload_n 2, 1, []), (45, .istore_n 1, 1, []), (46, .iinc 2 1, 3, []), (49, .goto (-45), 3, [4]), (52, .aload_n 0, 1, []), (53, .getfield 21, 3, []), (56, .iload_n 1, 1, []), (57, .invokevirtual 59, 3, []), (60, .ireturn, 1, [])]
theorem tbX7_takeNearestOpen_ok : tbOK cX7_takeNearestOpen tbX7_takeNearestOpen = true := by decide +kernel
def tbX7_spread : TB := [(0, .iconst 0, 1, []), (1, .istore_n 2, 1, []), (2, .iload_n 2, 1, []), (3, .iconst 4, 1, []), (4, .if_icmp .ge 41, 3, [45]), (7, .aload_n 0, 1, []), (8, .iload_n 1, 1, []), (9, .iload_n 2, 1, []), (10, .invokevirtual 62, 3, []), (13, .istore_n 3, 1, []), (14, .iload_n 3, 1, []), (15, .ifCond .le 24, 3, [39]), (18, .aload_n 0, 1, []), (19, .aload_n 0, 1, []), (20, .getfield 25, 3, []), (23, .iload_n 1, 1, []), (24, .iload_n 2, 1, []), (25, .invokevirtual 66, 3, []), (28, .aload_n 0, 1, []), (29, .getfield 15, 3, []), (32, .iload_n 1, 1, []), (33, .iaload, 1, []), (34, .iload_n 3, 1, []), (35, .iadd, 1, []), (36, .invokevirtual 41, 3, []), (39, .iinc 2 1, 3, []), (42, .goto (-40), 3, [2]), (45, .return_, 1, [])]
theorem tbX7_spread_ok : tbOK cX7_spread tbX7_spread = true := by decide +kernel
def tbX7_reach : TB := [(0, .aload_n 0, 1, []), (1, .getfield 15, 3, []), (4, .iload_n 1, 1, []), (5, .iaload, 1, []), (6, .bipush (-4), 2, []), (8, .if_icmp .ne 21, 3, [29]), (11, .aload_n 0, 1, []), (12, .getfield 15, 3, []), (15, .iload_n 1, 1, []), (16, .iload_n 2, 1, []), (17, .iastore, 1, []), (18, .aload_n 0, 1, []), (19, .getfield 21, 3, []), (22, .iload_n 1, 1, []), (23, .invokevirtual 69, 3, []), (26, .goto 20, 3, [46]), (29, .iload_n 2, 1, []), (30, .aload_n 0, 1, []), (31, .getfield 15, 3, []), (34, .iload_n 1, 1, []), (35, .iaload, 1, []), (36, .if_icmp .ge 10, 3, [46]), (39, .aload_n 0, 1, []), (40, .getfield 15, 3, []), (43, .iload_n 1, 1, []), (44, .iload_n 2, 1, []), (45, .iastore, 1, []), (46, .return_, 1, [])]
theorem tbX7_reach_ok : tbOK cX7_reach tbX7_reach = true := by decide +kernel
def tbX7_stepLength : TB := [(0, .aload_n 0, 1, []), (1, .getfield 25, 3, []), (4, .iload_n 1, 1, []), (5, .iload_n 2, 1, []), (6, .invokevirtual 66, 3, []), (9, .istore_n 3, 1, []), (10, .iload_n 3, 1, []), (11, .ifCond .ge 5, 3, [16]), (14, .iconst 0, 1, []), (15, .ireturn, 1, []), (16, .aload_n 0, 1, []), (17, .getfield 9, 3, []), (20, .aload_n 0, 1, []), (21, .getfield 29, 3, []), (24, .iload_n 1, 1, []), (25, .iaload, 1, []), (26, .iaload, 1, []), (27, .istore 4, 2, []), (29, .aload_n 0, 1, []), (30, .getfield 9, 3, []), (33, .aload_n 0, 1, []), (34, .getfield 29, 3, []), (37, .iload_n 3, 1, []), (38, .iaload, 1, []), (39, .iaload, 1, []), (40, .istore 5, 2, []), (42, .iload 4, 2, []), (44, .ifCond .eq 8, 3, [52]), (47, .iload 5, 2, []), (49, .ifCond .ne 7, 3, [56]), (52, .iconst 0, 1, []), (53, .goto 8, 3, [61]), (56, .iload 4, 2, []), (58, .iload 5, 2, []), (60, .iadd, 1, []), (61, .ireturn, 1, [])]
theorem tbX7_stepLength_ok : tbOK cX7_stepLength tbX7_stepLength = true := by decide +kernel
def tbX7_routeTile : TB := [(0, .iload_n 1, 1, []), (1, .istore 4, 2, []), (3, .iconst 0, 1, []), (4, .istore 5, 2, []), (6, .iload 4, 2, []), (8, .iload_n 2, 1, []), (9, .if_icmp .eq 31, 3, [40]), (12, .iload 5, 2, []), (14, .iload_n 3, 1, []), (15, .if_icmp .eq 25, 3, [40]), (18, .iload 5, 2, []), (20, .sipush 144, 3, []), (23, .if_icmp .ge 17, 3, [40]), (26, .aload_n 0, 1, []), (27, .iload 4, 2, []), (29, .invokevirtual 72, 3, []), (32, .istore 4, 2, []), (34, .iinc 5 1, 3, []), (37, .goto (-31), 3, [6]), (40, .iload_n 3, 1, []), (41, .iconst (-1), 1, []), (42, .if_icmp .ne 6, 3, [48]), (45, .iload 5, 2, []), (47, .ireturn, 1, []), (48, .iload 5, 2, []), (50, .iload_n 3, 1, []), (51, .if_icmp .ne 8, 3, [59]), (54, .iload 4, 2, []), (56, .goto 5, 3, [61]), (59, .bipush (-5), 2, []), (61, .ireturn, 1, [])]
theorem tbX7_routeTile_ok : tbOK cX7_routeTile tbX7_routeTile = true := by decide +kernel
def tbX7_nextOnRoute : TB := [(0, .iconst 0, 1, []), (1, .istore_n 2, 1, []), (2, .iload_n 2, 1, []), (3, .iconst 4, 1, []), (4, .if_icmp .ge 52, 3, [56]), (7, .aload_n 0, 1, []), (8, .iload_n 1, 1, []), (9, .iload_n 2, 1, []), (10, .invokevirtual 62, 3, []), (13, .istore_n 3, 1, []), (14, .iload_n 3, 1, []), (15, .ifCond .le 35, 3, [50]), (18, .aload_n 0, 1, []), (19, .getfield 25, 3, []), (22, .iload_n 1, 1, []), (23, .iload_n 2, 1, []), (24, .invokevirtual 66, 3, []), (27, .istore 4, 2, []), (29, .aload_n 0, 1, []), (30, .getfield 15, 3, []), (33, .iload 4, 2, []), (35, .iaload, 1, []), (36, .iload_n 3, 1, []), (37, .iadd, 1, []), (38, .aload_n 0, 1, []), (39, .getfield 15, 3, []), (42, .iload_n 1, 1, []), (43, .iaload, 1, []), (44, .if_icmp .ne 6, 3, [50]), (47, .iload 4, 2, []), (49, .ireturn, 1, []), (50, .iinc 2 1, 3, []), (53, .goto (-51), 3, [2]), (56, .iload_n 1, 1, []), (57, .ireturn, 1, [])]
theorem tbX7_nextOnRoute_ok : tbOK cX7_nextOnRoute tbX7_nextOnRoute = true := by decide +kernel
def tbX7_farthestTile : TB := [(0, .iload_n 1, 1, []), (1, .istore_n 2, 1, []), (2, .iconst 0, 1, []), (3, .istore_n 3, 1, []), (4, .iload_n 3, 1, []), (5, .aload_n 0, 1, []), (6, .getfield 25, 3, []), (9, .invokevirtual 32, 3, []), (12, .if_icmp .ge 26, 3, [38]), (15, .aload_n 0, 1, []), (16, .getfield 15, 3, []), (19, .iload_n 3, 1, []), (20, .iaload, 1, []), (21, .aload_n 0, 1, []), (22, .getfield 15, 3, []), (25, .iload_n 2, 1, []), (26, .iaload, 1, []), (27, .if_icmp .le 5, 3, [32]), (30, .iload_n 3, 1, []), (31, .istore_n 2, 1, []), (32, .iinc 3 1, 3, []), (35, .goto (-31), 3, [4]), (38, .iload_n 2, 1, []), (39, .ireturn, 1, [])]
theorem tbX7_farthestTile_ok : tbOK cX7_farthestTile tbX7_farthestTile = true := by decide +kernel
def tbX7_tilesUpTo : TB := [(0, .iconst 0, 1, []), (1, .istore_n 2, 1, []), (2, .iconst 0, 1, []), (3, .istore_n 3, 1, []), (4, .iload_n 3, 1, []), (5, .aload_n 0, 1, []), (6, .getfield 25, 3, []), (9, .invokevirtual 32, 3, []), (12, .if_icmp .ge 33, 3, [45]), (15, .aload_n 0, 1, []), (16, .getfield 15, 3, []), (19, .iload_n 3, 1, []), (20, .iaload, 1, []), (21, .bipush (-4), 2, []), (23, .if_icmp .eq 16, 3, [39]), (26, .aload_n 0, 1, []), (27, .getfield 15, 3, []), (30, .iload_n 3, 1, []), (31, .iaload, 1, []), (32, .iload_n 1, 1, []), (33, .if_icmp .gt 6, 3, [39]), (36, .iinc 2 1, 3, []), (39, .iinc 3 1, 3, []), (42, .goto (-38), 3, [4]), (45, .iload_n 2, 1, []), (46, .ireturn, 1, [])]
theorem tbX7_tilesUpTo_ok : tbOK cX7_tilesUpTo tbX7_tilesUpTo = true := by decide +kernel
def tbX7_nearestOf : TB := [(0, .bipush (-5), 2, []), (2, .istore_n 2, 1, []), (3, .iconst 0, 1, []), (4, .istore_n 3, 1, []), (5, .iload_n 3, 1, []), (6, .aload_n 0, 1, []), (7, .getfield 25, 3, []), (10, .invokevirtual 32, 3, []), (13, .if_icmp .ge 53, 3, [66]), (16, .aload_n 0, 1, []), (17, .getfield 29, 3, []), (20, .iload_n 3, 1, []), (21, .iaload, 1, []), (22, .iload_n 1, 1, []), (23, .if_icmp .ne 37, 3, [60]), (26, .aload_n 0, 1, []), (27, .getfield 15, 3, []), (30, .iload_n 3, 1, []), (31, .iaload, 1, []), (32, .bipush (-4), 2, []), (34, .if_icmp .eq 26, 3, [60]), (37, .iload_n 2, 1, []), (38, .bipush (-5), 2, []), (40, .if_icmp .eq 18, 3, [58]), (43, .aload_n 0, 1, []), (44, .getfield 15, 3, []), (47, .iload_n 3, 1, []), (48, .iaload, 1, []), (49, .aload_n 0, 1, []), (50, .getfield 15, 3, []), (53, .iload_n 2, 1, []), (54, .iaload, 1, []), (55, .if_icmp .ge 5, 3, [60]), (58, .iload_n 3, 1, []), (59, .istore_n 2, 1, []), (60, .iinc 3 1, 3, []), (63, .goto (-58), 3, [5]), (66, .iload_n 2, 1, []), (67, .ireturn, 1, [])]
theorem tbX7_nearestOf_ok : tbOK cX7_nearestOf tbX7_nearestOf = true := by decide +kernel
def tbX8_reset : TB := [(0, .iload_n 1, 1, []), (1, .invokestatic 66, 3, []), (4, .ifCond .eq 10, 3, [14]), (7, .iload_n 2, 1, []), (8, .invokestatic 66, 3, []), (11, .ifCond .ne 6, 3, [17]), (14, .bipush (-2), 2, []), (16, .ireturn, 1, []), (17, .aload_n 0, 1, []), (18, .iload_n 1, 1, []), (19, .iload_n 2, 1, []), (20, .invokevirtual 62, 3, []), (23, .aload_n 0, 1, []), (24, .getfield 12, 3, []), (27, .invokevirtual 70, 3, []), (30, .ireturn, 1, [])]
theorem tbX8_reset_ok : tbOK cX8_reset tbX8_reset = true := by decide +kernel
def tbX8_setSeam : TB := [(0, .iload_n 1, 1, []), (1, .ifCond .eq 13, 3, [14]), (4, .aload_n 0, 1, []), (5, .getfield 12, 3, []), (8, .invokevirtual 74, 3, []), (11, .goto 10, 3, [21]), (14, .aload_n 0, 1, []), (15, .getfield 12, 3, []), (18, .invokevirtual 77, 3, []), (21, .istore 4, 2, []), (23, .iload_n 2, 1, []), (24, .ifCond .lt 18, 3, [42]), (27, .iload_n 2, 1, []), (28, .iconst 2, 1, []), (29, .if_icmp .gt 13, 3, [42]), (32, .iload_n 3, 1, []), (33, .ifCond .lt 9, 3, [42]), (36, .iload_n 3, 1, []), (37, .iload 4, 2, []), (39, .if_icmp .lt 6, 3, [45]), (42, .bipush (-2), 2, []), (44, .ireturn, 1, []), (45, .aload_n 0, 1, []), (46, .getfield 12, 3, []), (49, .iload_n 1, 1, []), (50, .iload_n 2, 1, []), (51, .iload_n 3, 1, []), (52, .invokevirtual 80, 3, []), (55, .ifCond .ne 5, 3, [60]), (58, .iconst 0, 1, []), (59, .ireturn, 1, []), (60, .aload_n 0, 1, []), (61, .invokevirtual 84, 3, []), (64, .iconst 1, 1, []), (65, .ireturn, 1, [])]
theorem tbX8_setSeam_ok : tbOK cX8_setSeam tbX8_setSeam = true := by decide +kernel
def tbX8_value : TB := [(0, .iload_n 1, 1, []), (1, .tableswitch 135 0 8 #[51, 59, 67, 78, 89, 100, 111, 119, 127], 51, [136, 52, 60, 68, 79, 90, 101, 112, 120, 128]), (52, .aload_n 0, 1, []), (53, .getfield 12, 3, []), (56, .invokevirtual 74, 3, []), (59, .ireturn, 1, []), (60, .aload_n 0, 1, []), (61, .getfield 12, 3, []), (64, .invokevirtual 77, 3, []), (67, .ireturn, 1, []), (68, .aload_n 0, 1, []), (69, .getfield 12, 3, []), (72, .invokevirtual 87, 3, []), (75, .invokevirtual 91, 3, []), (78, .ireturn, 1, []), (79, .aload_n 0, 1, []), (80, .getfield 12, 3, []), (83, .invokevirtual 87, 3, []), (86, .invokevirtual 96, 3, []), (89, .ireturn, 1, []), (90, .aload_n 0, 1, []), (91, .getfield 12, 3, []), (94, .invokevirtual 99, 3, []), (97, .invokevirtual 91, 3, []), (100, .ireturn, 1, []), (101, .aload_n 0, 1, []), (102, .getfield 12, 3, []), (105, .invokevirtual 99, 3, []), (108, .invokevirtual 96, 3, []), (111, .ireturn, 1, []), (112, .aload_n 0, 1, []), (113, .getfield 55, 3, []), (116, .invokevirtual 102, 3, []), (119, .ireturn, 1, []), (120, .aload_n 0, 1, []), (121, .getfield 12, 3, []), (124, .invokevirtual 105, 3, []), (127, .ireturn, 1, []), (128, .aload_n 0, 1, []), (129, .getfield 48, 3, []), (132, .invokevirtual 108, 3, []), (135, .ireturn, 1, []), (136, .bipush (-2), 2, []), (138, .ireturn, 1, [])]
theorem tbX8_value_ok : tbOK cX8_value tbX8_value = true := by decide +kernel
def tbX8_kind : TB := [(0, .aload_n 0, 1, []), (1, .getfield 12, 3, []), (4, .iload_n 1, 1, []), (5, .invokevirtual 111, 3, []), (8, .ifCond .eq 12, 3, [20]), (11, .aload_n 0, 1, []), (12, .getfield 16, 3, []), (15, .iload_n 1, 1, []), (16, .iaload, 1, []), (17, .goto 4, 3, [21]), (20, .iconst (-1), 1, []), (21, .ireturn, 1, [])]
theorem tbX8_kind_ok : tbOK cX8_kind tbX8_kind = true := by decide +kernel
def tbX8_neighbour : TB := [(0, .aload_n 0, 1, []), (1, .getfield 12, 3, []), (4, .iload_n 1, 1, []), (5, .invokevirtual 111, 3, []), (8, .ifCond .ne 5, 3, [13]), (11, .iconst (-1), 1, []), (12, .ireturn, 1, []), (13, .iload_n 2, 1, []), (14, .invokestatic 114, 3, []), (17, .ifCond .ne 6, 3, [23]), (20, .bipush (-2), 2, []), (22, .ireturn, 1, []), (23, .aload_n 0, 1, []), (24, .getfield 12, 3, []), (27, .iload_n 1, 1, []), (28, .iload_n 2, 1, []), (29, .invokevirtual 117, 3, []), (32, .ireturn, 1, [])]
theorem tbX8_neighbour_ok : tbOK cX8_neighbour tbX8_neighbour = true := by decide +kernel
def tbX8_type : TB := [(0, .aload_n 0, 1, []), (1, .getfield 32, 3, []), (4, .iload_n 1, 1, []), (5, .invokevirtual 121, 3, []), (8, .ireturn, 1, [])]
theorem tbX8_type_ok : tbOK cX8_type tbX8_type = true := by decide +kernel
def tbX8_clearText : TB := [(0, .aload_n 0, 1, []), (1, .getfield 32, 3, []), (4, .invokevirtual 125, 3, []), (7, .ireturn, 1, [])]
theorem tbX8_clearText_ok : tbOK cX8_clearText tbX8_clearText = true := by decide +kernel
def tbX8_readTiles : TB := [(0, .aload_n 0, 1, []), (1, .getfield 32, 3, []), (4, .aload_n 0, 1, []), (5, .getfield 12, 3, []), (8, .invokevirtual 74, 3, []), (11, .aload_n 0, 1, []), (12, .getfield 12, 3, []), (15, .invokevirtual 77, 3, []), (18, .invokevirtual 128, 3, []), (21, .istore_n 1, 1, []), (22, .iload_n 1, 1, []), (23, .iconst (-1), 1, []), (24, .if_icmp .eq 8, 3, [32]), (27, .bipush (-100), 2, []), (29, .iload_n 1, 1, []), (30, .isub, 1, []), (31, .ireturn, 1, []), (32, .aload_n 0, 1, []), (33, .getfield 48, 3, []), (36, .aload_n 0, 1, []), (37, .getfield 16, 3, []), (40, .invokevirtual 131, 3, []), (43, .aload_n 0, 1, []), (44, .invokevirtual 135, 3, []), (47, .istore_n 2, 1, []), (48, .aload_n 0, 1, []), (49, .invokevirtual 84, 3, []), (52, .iload_n 2, 1, []), (53, .ireturn, 1, [])]
theorem tbX8_readTiles_ok : tbOK cX8_readTiles tbX8_readTiles = true := by decide +kernel
def tbX8_walk : TB := [(0, .aload_n 0, 1, []), (1, .getfield 12, 3, []), (4, .iload_n 1, 1, []), (5, .invokevirtual 111, 3, []), (8, .ifCond .ne 5, 3, [13]), (11, .iconst (-1), 1, []), (12, .ireturn, 1, []), (13, .iload_n 2, 1, []), (14, .invokestatic 114, 3, []), (17, .ifCond .eq 12, 3, [29]), (20, .iload_n 3, 1, []), (21, .ifCond .lt 8, 3, [29]), (24, .iload_n 3, 1, []), (25, .iconst 4, 1, []), (26, .if_icmp .le 6, 3, [32]), (29, .bipush (-2), 2, []), (31, .ireturn, 1, []), (32, .aload_n 0, 1, []), (33, .getfield 32, 3, []), (36, .invokevirtual 138, 3, []), (39, .istore 4, 2, []), (41, .iload 4, 2, []), (43, .iconst (-1), 1, []), (44, .if_icmp .eq 9, 3, [53]), (47, .bipush (-100), 2, []), (49, .iload 4, 2, []), (51, .isub, 1, []), (52, .ireturn, 1, []), (53, .aload_n 0, 1, []), (54, .getfield 41, 3, []), (57, .aload_n 0, 1, []), (58, .getfield 32, 3, []), (61, .iload_n 1, 1, []), (62, .iload_n 2, 1, []), (63, .invokevirtual 141, 3, []), (66, .aload_n 0, 1, []), (67, .getfield 41, 3, []), (70, .iload_n 3, 1, []), (71, .invokevirtual 145, 3, []), (74, .ireturn, 1, [])]
theorem tbX8_walk_ok : tbOK cX8_walk tbX8_walk = true := by decide +kernel
def tbX8_setTile : TB := [(0, .aload_n 0, 1, []), (1, .getfield 12, 3, []), (4, .iload_n 1, 1, []), (5, .invokevirtual 111, 3, []), (8, .ifCond .ne 5, 3, [13]), (11, .iconst (-1), 1, []), (12, .ireturn, 1, []), (13, .iload_n 2, 1, []), (14, .invokestatic 149, 3, []), (17, .ifCond .ne 6, 3, [23]), (20, .bipush (-2), 2, []), (22, .ireturn, 1, []), (23, .aload_n 0, 1, []), (24, .getfield 48, 3, []), (27, .aload_n 0, 1, []), (28, .getfield 16, 3, []), (31, .invokevirtual 131, 3, []), (34, .aload_n 0, 1, []), (35, .getfield 16, 3, []), (38, .iload_n 1, 1, []), (39, .iload_n 2, 1, []), (40, .iastore, 1, []), (41, .aload_n 0, 1, []), (42, .invokevirtual 84, 3, []), (45, .aload_n 0, 1, []), (46, .getfield 55, 3, []), (49, .aload_n 0, 1, []), (50, .getfield 59, 3, []), (53, .iload_n 1, 1, []), (54, .invokevirtual 152, 3, []), (57, .ireturn, 1, [])]
theorem tbX8_setTile_ok : tbOK cX8_setTile tbX8_setTile = true := by decide +kernel
def tbX8_fill : TB := [(0, .aload_n 0, 1, []), (1, .getfield 12, 3, []), (4, .iload_n 1, 1, []), (5, .invokevirtual 111, 3, []), (8, .ifCond .ne 5, 3, [13]), (11, .iconst (-1), 1, []), (12, .ireturn, 1, []), (13, .iload_n 2, 1, []), (14, .invokestatic 149, 3, []), (17, .ifCond .ne 6, 3, [23]), (20, .bipush (-2), 2, []), (22, .ireturn, 1, []), (23, .aload_n 0, 1, []), (24, .getfield 48, 3, []), (27, .aload_n 0, 1, []), (28, .getfield 16, 3, []), (31, .invokevirtual 131, 3, []), (34, .aload_n 0, 1, []), (35, .aload_n 0, 1, []), (36, .getfield 55, 3, []), (39, .iload_n 1, 1, []), (40, .invokevirtual 156, 3, []), (43, .iload_n 2, 1, []), (44, .invokevirtual 159, 3, []), (47, .aload_n 0, 1, []), (48, .invokevirtual 84, 3, []), (51, .aload_n 0, 1, []), (52, .getfield 55, 3, []), (55, .aload_n 0, 1, []), (56, .getfield 55, 3, []), (59, .iload_n 1, 1, []), (60, .invokevirtual 156, 3, []), (63, .invokevirtual 162, 3, []), (66, .ireturn, 1, [])]
theorem tbX8_fill_ok : tbOK cX8_fill tbX8_fill = true := by decide +kernel
def tbX8_undo : TB := [(0, .aload_n 0, 1, []), (1, .getfield 48, 3, []), (4, .invokevirtual 108, 3, []), (7, .ifCond .ne 6, 3, [13]), (10, .bipush (-5), 2, []), (12, .ireturn, 1, []), (13, .aload_n 0, 1, []), (14, .getfield 48, 3, []), (17, .aload_n 0, 1, []), (18, .getfield 16, 3, []), (21, .invokevirtual 165, 3, []), (24, .aload_n 0, 1, []), (25, .invokevirtual 84, 3, []), (28, .aload_n 0, 1, []), (29, .getfield 48, 3, []), (32, .invokevirtual 108, 3, []), (35, .ireturn, 1, [])]
theorem tbX8_undo_ok : tbOK cX8_undo tbX8_undo = true := by decide +kernel
def tbX8_label : TB := [(0, .aload_n 0, 1, []), (1, .getfield 12, 3, []), (4, .iload_n 1, 1, []), (5, .invokevirtual 111, 3, []), (8, .ifCond .eq 14, 3, [22]), (11, .aload_n 0, 1, []), (12, .getfield 55, 3, []), (15, .iload_n 1, 1, []), (16, .invokevirtual 156, 3, []), (19, .goto 4, 3, [23]), (22, .iconst (-1), 1, []), (23, .ireturn, 1, [])]
theorem tbX8_label_ok : tbOK cX8_label tbX8_label = true := by decide +kernel
def tbX8_part : TB := [(0, .iload_n 1, 1, []), (1, .ifCond .ge 8, 3, [9]), (4, .bipush (-2), 2, []), (6, .goto 11, 3, [17]), (9, .aload_n 0, 1, []), (10, .getfield 55, 3, []), (13, .iload_n 1, 1, []), (14, .invokevirtual 168, 3, []), (17, .ireturn, 1, [])]
theorem tbX8_part_ok : tbOK cX8_part tbX8_part = true := by decide +kernel
def tbX8_ofPart : TB := [(0, .aload_n 0, 1, []), (1, .getfield 12, 3, []), (4, .iload_n 1, 1, []), (5, .invokevirtual 111, 3, []), (8, .ifCond .eq 15, 3, [23]), (11, .aload_n 0, 1, []), (12, .getfield 55, 3, []), (15, .iload_n 1, 1, []), (16, .invokevirtual 156, 3, []), (19, .iload_n 1, 1, []), (20, .if_icmp .eq 5, 3, [25]), (23, .iconst (-1), 1, []), (24, .ireturn, 1, []), (25, .iload_n 2, 1, []), (26, .ifCond .lt 9, 3, [35]), (29, .iload_n 2, 1, []), (30, .bipush 7, 2, []), (32, .if_icmp .le 6, 3, [38]), (35, .bipush (-2), 2, []), (37, .ireturn, 1, []), (38, .aload_n 0, 1, []), (39, .getfield 55, 3, []), (42, .iload_n 1, 1, []), (43, .iload_n 2, 1, []), (44, .invokevirtual 171, 3, []), (47, .ireturn, 1, [])]
theorem tbX8_ofPart_ok : tbOK cX8_ofPart tbX8_ofPart = true := by decide +kernel
def tbX8_greatestPart : TB := [(0, .iload_n 1, 1, []), (1, .invokestatic 149, 3, []), (4, .ifCond .eq 14, 3, [18]), (7, .aload_n 0, 1, []), (8, .getfield 55, 3, []), (11, .iload_n 1, 1, []), (12, .invokevirtual 174, 3, []), (15, .goto 5, 3, [20]), (18, .bipush (-2), 2, []), (20, .ireturn, 1, [])]
theorem tbX8_greatestPart_ok : tbOK cX8_greatestPart tbX8_greatestPart = true := by decide +kernel
def tbX8_partsIf : TB := [(0, .aload_n 0, 1, []), (1, .getfield 12, 3, []), (4, .iload_n 1, 1, []), (5, .invokevirtual 111, 3, []), (8, .ifCond .ne 5, 3, [13]), (11, .iconst (-1), 1, []), (12, .ireturn, 1, []), (13, .iload_n 2, 1, []), (14, .invokestatic 149, 3, []), (17, .ifCond .ne 6, 3, [23]), (20, .bipush (-2), 2, []), (22, .ireturn, 1, []), (23, .aload_n 0, 1, []), (24, .getfield 16, 3, []), (27, .iload_n 1, 1, []), (28, .iaload, 1, []), (29, .istore_n 3, 1, []), (30, .aload_n 0, 1, []), (31, .getfield 16, 3, []), (34, .iload_n 1, 1, []), (35, .iload_n 2, 1, []), (36, .iastore, 1, []), (37, .aload_n 0, 1, []), (38, .getfield 59, 3, []), (41, .invokevirtual 177, 3, []), (44, .aload_n 0, 1, []), (45, .getfield 16, 3, []), (48, .iload_n 1, 1, []), (49, .iload_n 3, 1, []), (50, .iastore, 1, []), (51, .aload_n 0, 1, []), (52, .getfield 59, 3, []), (55, .invokevirtual 102, 3, []), (58, .ireturn, 1, [])]
theorem tbX8_partsIf_ok : tbOK cX8_partsIf tbX8_partsIf = true := by decide +kernel
def tbX8_setWeight : TB := [(0, .iload_n 1, 1, []), (1, .invokestatic 149, 3, []), (4, .ifCond .eq 13, 3, [17]), (7, .iload_n 2, 1, []), (8, .ifCond .lt 9, 3, [17]), (11, .iload_n 2, 1, []), (12, .bipush 9, 2, []), (14, .if_icmp .le 6, 3, [20]), (17, .bipush (-2), 2, []), (19, .ireturn, 1, []), (20, .aload_n 0, 1, []), (21, .getfield 25, 3, []), (24, .iload_n 1, 1, []), (25, .iload_n 2, 1, []), (26, .invokevirtual 180, 3, []), (29, .ireturn, 1, [])]
theorem tbX8_setWeight_ok : tbOK cX8_setWeight tbX8_setWeight = true := by decide +kernel
def tbX8_distance : TB := [(0, .aload_n 0, 1, []), (1, .getfield 12, 3, []), (4, .iload_n 1, 1, []), (5, .invokevirtual 111, 3, []), (8, .ifCond .eq 14, 3, [22]), (11, .aload_n 0, 1, []), (12, .getfield 12, 3, []), (15, .iload_n 2, 1, []), (16, .invokevirtual 111, 3, []), (19, .ifCond .ne 5, 3, [24]), (22, .iconst (-1), 1, []), (23, .ireturn, 1, []), (24, .aload_n 0, 1, []), (25, .getfield 25, 3, []), (28, .iload_n 1, 1, []), (29, .invokevirtual 183, 3, []), (32, .aload_n 0, 1, []), (33, .getfield 25, 3, []), (36, .iload_n 2, 1, []), (37, .invokevirtual 187, 3, []), (40, .ireturn, 1, [])]
theorem tbX8_distance_ok : tbOK cX8_distance tbX8_distance = true := by decide +kernel
def tbX8_route : TB := [(0, .aload_n 0, 1, []), (1, .getfield 12, 3, []), (4, .iload_n 1, 1, []), (5, .invokevirtual 111, 3, []), (8, .ifCond .eq 14, 3, [22]), (11, .aload_n 0, 1, []), (12, .getfield 12, 3, []), (15, .iload_n 2, 1, []), (16, .invokevirtual 111, 3, []), (19, .ifCond .ne 5, 3, [24]), (22, .iconst (-1), 1, []), (23, .ireturn, 1, []), (24, .iload_n 3, 1, []), (25, .iconst (-1), 1, []), (26, .if_icmp .ge 6, 3, [32]), (29, .bipush (-2), 2, []), (31, .ireturn, 1, []), (32, .aload_n 0, 1, []), (33, .getfield 25, 3, []), (36, .iload_n 2, 1, []), (37, .invokevirtual 183, 3, []), (40, .aload_n 0, 1, []), (41, .getfield 25, 3, []), (44, .iload_n 1, 1, []), (45, .invokevirtual 187, 3, []), (48, .bipush (-4), 2, []), (50, .if_icmp .ne 8, 3, [58]), (53, .bipush (-4), 2, []), (55, .goto 13, 3, [68]), (58, .aload_n 0, 1, []), (59, .getfield 25, 3, []), (62, .iload_n 1, 1, []), (63, .iload_n 2, 1, []), (64, .iload_n 3, 1, []), (65, .invokevirtual 190, 3, []), (68, .ireturn, 1, [])]
theorem tbX8_route_ok : tbOK cX8_route tbX8_route = true := by decide +kernel
def tbX8_farthest : TB := [(0, .aload_n 0, 1, []), (1, .getfield 12, 3, []), (4, .iload_n 1, 1, []), (5, .invokevirtual 111, 3, []), (8, .ifCond .ne 5, 3, [13]), (11, .iconst (-1), 1, []), (12, .ireturn, 1, []), (13, .aload_n 0, 1, []), (14, .getfield 25, 3, []), (17, .iload_n 1, 1, []), (18, .invokevirtual 183, 3, []), (21, .aload_n 0, 1, []), (22, .getfield 25, 3, []), (25, .iload_n 1, 1, []), (26, .invokevirtual 194, 3, []), (29, .ireturn, 1, [])]
theorem tbX8_farthest_ok : tbOK cX8_farthest tbX8_farthest = true := by decide +kernel
def tbX8_within : TB := [(0, .aload_n 0, 1, []), (1, .getfield 12, 3, []), (4, .iload_n 1, 1, []), (5, .invokevirtual 111, 3, []), (8, .ifCond .ne 5, 3, [13]), (11, .iconst (-1), 1, []), (12, .ireturn, 1, []), (13, .iload_n 2, 1, []), (14, .ifCond .ge 6, 3, [20]), (17, .bipush (-2), 2, []), (19, .ireturn, 1, []), (20, .aload_n 0, 1, []), (21, .getfield 25, 3, []), (24, .iload_n 1, 1, []), (25, .invokevirtual 183, 3, []), (28, .aload_n 0, 1, []), (29, .getfield 25, 3, []), (32, .iload_n 2, 1, []), (33, .invokevirtual 197, 3, []), (36, .ireturn, 1, [])]
theorem tbX8_within_ok : tbOK cX8_within tbX8_within = true := by decide +kernel
def tbX8_nearest : TB := [(0, .aload_n 0, 1, []), (1, .getfield 12, 3, []), (4, .iload_n 1, 1, []), (5, .invokevirtual 111, 3, []), (8, .ifCond .ne 5, 3, [13]), (11, .iconst (-1), 1, []), (12, .ireturn, 1, []), (13, .iload_n 2, 1, []), (14, .invokestatic 149, 3, []), (17, .ifCond .ne 6, 3, [23]), (20, .bipush (-2), 2, []), (22, .ireturn, 1, []), (23, .aload_n 0, 1, []), (24, .getfield 25, 3, []), (27, .iload_n 1, 1, []), (28, .invokevirtual 183, 3, []), (31, .aload_n 0, 1, []), (32, .getfield 25, 3, []), (35, .iload_n 2, 1, []), (36, .invokevirtual 200, 3, []), (39, .ireturn, 1, [])]
theorem tbX8_nearest_ok : tbOK cX8_nearest tbX8_nearest = true := by decide +kernel
def tbX8_isSize : TB := [(0, .iload_n 0, 1, []), (1, .iconst 3, 1, []), (2, .if_icmp .lt 13, 3, [15]), (5, .iload_n 0, 1, []), (6, .bipush 12, 2, []), (8, .if_icmp .gt 7, 3, [15]), (11, .iconst 1, 1, []), (12, .goto 4, 3, [16]), (15, .iconst 0, 1, []), (16, .ireturn, 1, [])]
theorem tbX8_isSize_ok : tbOK cX8_isSize tbX8_isSize = true := by decide +kernel
def tbX8_isKind : TB := [(0, .iload_n 0, 1, []), (1, .ifCond .lt 13, 3, [14]), (4, .iload_n 0, 1, []), (5, .bipush 6, 2, []), (7, .if_icmp .ge 7, 3, [14]), (10, .iconst 1, 1, []), (11, .goto 4, 3, [15]), (14, .iconst 0, 1, []), (15, .ireturn, 1, [])]
theorem tbX8_isKind_ok : tbOK cX8_isKind tbX8_isKind = true := by decide +kernel
def tbX8_isDirection : TB := [(0, .iload_n 0, 1, []), (1, .ifCond .lt 12, 3, [13]), (4, .iload_n 0, 1, []), (5, .iconst 4, 1, []), (6, .if_icmp .ge 7, 3, [13]), (9, .iconst 1, 1, []), (10, .goto 4, 3, [14]), (13, .iconst 0, 1, []), (14, .ireturn, 1, [])]
theorem tbX8_isDirection_ok : tbOK cX8_isDirection tbX8_isDirection = true := by decide +kernel
def tbX8_beginAnew : TB := [(0, .iconst 0, 1, []), (1, .istore_n 3, 1, []), (2, .iload_n 3, 1, []), (3, .sipush 144, 3, []), (6, .if_icmp .ge 16, 3, [22]), (9, .aload_n 0, 1, []), (10, .getfield 16, 3, []), (13, .iload_n 3, 1, []), (14, .iconst 0, 1, []), (15, .iastore, 1, []), (16, .iinc 3 1, 3, []), (19, .goto (-17), 3, [2]), (22, .aload_n 0, 1, []), (23, .getfield 12, 3, []), (26, .iload_n 1, 1, []), (27, .iload_n 2, 1, []), (28, .invokevirtual 203, 3, []), (31, .aload_n 0, 1, []), (32, .getfield 25, 3, []), (35, .invokevirtual 206, 3, []), (38, .aload_n 0, 1, []), (39, .getfield 48, 3, []), (42, .invokevirtual 209, 3, []), (45, .aload_n 0, 1, []), (46, .getfield 55, 3, []), (49, .invokevirtual 177, 3, []), (52, .return_, 1, [])]
theorem tbX8_beginAnew_ok : tbOK cX8_beginAnew tbX8_beginAnew = true := by decide +kernel
def tbX8_repairParts : TB := [(0, .aload_n 0, 1, []), (1, .getfield 55, 3, []), (4, .astore_n 1, 1, []), (5, .aload_n 0, 1, []), (6, .aload_n 0, 1, []), (7, .getfield 59, 3, []), (10, .putfield 55, 3, []), (13, .aload_n 0, 1, []), (14, .aload_n 1, 1, []), (15, .putfield 59, 3, []), (18, .aload_n 0, 1, []), (19, .getfield 55, 3, []), (22, .invokevirtual 177, 3, []), (25, .return_, 1, [])]
theorem tbX8_repairParts_ok : tbOK cX8_repairParts tbX8_repairParts = true := by decide +kernel
def tbX8_takeKindsFromText : TB := [(0, .iconst 0, 1, []), (1, .istore_n 1, 1, []), (2, .iconst 0, 1, []), (3, .istore_n 2, 1, []), (4, .iconst 0, 1, []), (5, .istore_n 3, 1, []), (6, .iload_n 3, 1, []), (7, .aload_n 0, 1, []), (8, .getfield 12, 3, []), (11, .invokevirtual 77, 3, []), (14, .if_icmp .ge 74, 3, [88]), (17, .iconst 0, 1, []), (18, .istore 4, 2, []), (20, .iload 4, 2, []), (22, .aload_n 0, 1, []), (23, .getfield 12, 3, []), (26, .invokevirtual 74, 3, []), (29, .if_icmp .ge 53, 3, [82]), (32, .aload_n 0, 1, []), (33, .getfield 32, 3, []), (36, .iload 4, 2, []), (38, .iload_n 3, 1, []), (39, .aload_n 0, 1, []), (40, .getfield 12, 3, []), (43, .invokevirtual 74, 3, []), (46, .invokevirtual 212, 3, []), (49, .istore 5, 2, []), (51, .aload_n 0, 1, []), (52, .getfield 16, 3, []), (55, .iload_n 2, 1, []), (56, .iaload, 1, []), (57, .iload 5, 2, []), (59, .if_icmp .eq 14, 3, [73]), (62, .aload_n 0, 1, []), (63, .getfield 16, 3, []), (66, .iload_n 2, 1, []), (67, .iload 5, 2, []), (69, .iastore, 1, []), (70, .iinc 1 1, 3, []), (73, .iinc 2 1, 3, []), (76, .iinc 4 1, 3, []), (79, .goto (-59), 3, [20]), (82, .iinc 3 1, 3, []), (85, .goto (-79), 3, [6]), (88, .iload_n 1, 1, []), (89, .ireturn, 1, [])]
theorem tbX8_takeKindsFromText_ok : tbOK cX8_takeKindsFromText tbX8_takeKindsFromText = true := by decide +kernel
def tbX8_giveKindToPart : TB := [(0, .iconst 0, 1, []), (1, .istore_n 3, 1, []), (2, .iload_n 3, 1, []), (3, .aload_n 0, 1, []), (4, .getfield 12, 3, []), (7, .invokevirtual 70, 3, []), (10, .if_icmp .ge 28, 3, [38]), (13, .aload_n 0, 1, []), (14, .getfield 55, 3, []), (17, .iload_n 3, 1, []), (18, .invokevirtual 156, 3, []), (21, .iload_n 1, 1, []), (22, .if_icmp .ne 10, 3, [32]), (25, .aload_n 0, 1, []), (26, .getfield 16, 3, []), (29, .iload_n 3, 1, []), (30, .iload_n 2, 1, []), (31, .iastore, 1, []), (32, .iinc 3 1, 3, []), (35, .goto (-33), 3, [2]), (38, .return_, 1, [])]
theorem tbX8_giveKindToPart_ok : tbOK cX8_giveKindToPart tbX8_giveKindToPart = true := by decide +kernel
def tbL_cell : TB := [(0, .iload_n 1, 1, []), (1, .aload_n 0, 1, []), (2, .arraylength, 1, []), (3, .if_icmp .ge 9, 3, [12]), (6, .aload_n 0, 1, []), (7, .iload_n 1, 1, []), (8, .iaload, 1, []), (9, .goto 11, 3, [20]), (12, .ldc 7, 2, []), (14, .iload_n 1, 1, []), (15, .imul, 1, []), (16, .sipush 173, 3, []), (19, .iadd, 1, []), (20, .ireturn, 1, [])]
theorem tbL_cell_ok : tbOK cL_cell tbL_cell = true := by decide +kernel
def tbL_low : TB := [(0, .iload_n 0, 1, []), (1, .ldc 8, 2, []), (3, .iand, 1, []), (4, .iload_n 1, 1, []), (5, .irem, 1, []), (6, .ireturn, 1, [])]
theorem tbL_low_ok : tbOK cL_low tbL_low = true := by decide +kernel
def tbL_steps : TB := [(0, .aload_n 0, 1, []), (1, .iconst 0, 1, []), (2, .invokevirtual 9, 3, []), (5, .aload_n 0, 1, []), (6, .iconst 1, 1, []), (7, .invokevirtual 9, 3, []), (10, .imul, 1, []), (11, .istore_n 1, 1, []), (12, .iconst 0, 1, []), (13, .istore_n 2, 1, []), (14, .iconst 0, 1, []), (15, .istore_n 3, 1, []), (16, .iload_n 3, 1, []), (17, .iload_n 1, 1, []), (18, .if_icmp .ge 85, 3, [103]), (21, .iconst 0, 1, []), (22, .istore 4, 2, []), (24, .iload 4, 2, []), (26, .iconst 4, 1, []), (27, .if_icmp .ge 70, 3, [97]), (30, .aload_n 0, 1, []), (31, .iload_n 3, 1, []), (32, .iload 4, 2, []), (34, .invokevirtual 15, 3, []), (37, .istore 5, 2, []), (39, .iload_n 2, 1, []), (40, .iload 5, 2, []), (42, .ifCond .lt 7, 3, [49]), (45, .iconst 1, 1, []), (46, .goto 4, 3, [50]), (49, .iconst 0, 1, []), (50, .iadd, 1, []), (51, .istore_n 2, 1, []), (52, .iload 5, 2, []), (54, .ifCond .lt 28, 3, [82]), (57, .iload 5, 2, []), (59, .iload_n 1, 1, []), (60, .if_icmp .ge 29, 3, [89]), (63, .aload_n 0, 1, []), (64, .iload 5, 2, []), (66, .iload 4, 2, []), (68, .iconst 2, 1, []), (69, .iadd, 1, []), (70, .iconst 4, 1, []), (71, .irem, 1, []), (72, .invokevirtual 15, 3, []), (75, .iload_n 3, 1, []), (76, .if_icmp .eq 15, 3, [91]), (79, .goto 10, 3, [89]), (82, .iload 5, 2, []), (84, .bipush (-5), 2, []), (86, .if_icmp .eq 5, 3, [91]), (89, .iconst 0, 1, []), (90, .ireturn, 1, []), (91, .iinc 4 1, 3, []), (94, .goto (-70), 3, [24]), (97, .iinc 3 1, 3, []), (100, .goto (-84), 3, [16]), (103, .iload_n 2, 1, []), (104, .aload_n 0, 1, []), (105, .bipush 7, 2, []), (107, .invokevirtual 9, 3, []), (110, .if_icmp .ne 7, 3, [117]), (113, .iconst 1, 1, []), (114, .goto 4, 3, [118]), (117, .iconst 0, 1, []), (118, .ireturn, 1, [])]
theorem tbL_steps_ok : tbOK cL_steps tbL_steps = true := by decide +kernel
def tbL_parts : TB := [(0, .aload_n 0, 1, []), (1, .iconst 0, 1, []), (2, .invokevirtual 9, 3, []), (5, .aload_n 0, 1, []), (6, .iconst 1, 1, []), (7, .invokevirtual 9, 3, []), (10, .imul, 1, []), (11, .istore_n 1, 1, []), (12, .aload_n 0, 1, []), (13, .bipush 6, 2, []), (15, .invokevirtual 9, 3, []), (18, .istore_n 2, 1, []), (19, .iconst 0, 1, []), (20, .istore_n 3, 1, []), (21, .iconst 0, 1, []), (22, .istore 4, 2, []), (24, .iconst 0, 1, []), (25, .istore 5, 2, []), (27, .iconst (-1), 1, []), (28, .istore 6, 2, []), (30, .iconst 0, 1, []), (31, .istore 7, 2, []), (33, .iload 7, 2, []), (35, .iload_n 2, 1, []), (36, .if_icmp .ge 337, 3, [373]), (39, .aload_n 0, 1, []), (40, .iload 7, 2, []), (42, .invokevirtual 19, 3, []), (45, .istore 8, 2, []), (47, .iload 8, 2, []), (49, .iload 6, 2, []), (51, .if_icmp .le 30, 3, [81]), (54, .aload_n 0, 1, []), (55, .iload 8, 2, []), (57, .invokevirtual 22, 3, []), (60, .iload 8, 2, []), (62, .if_icmp .ne 19, 3, [81]), (65, .aload_n 0, 1, []), (66, .iload 8, 2, []), (68, .invokevirtual 25, 3, []), (71, .aload_n 0, 1, []), (72, .iload 8, 2, []), (74, .iconst 0, 1, []), (75, .invokevirtual 28, 3, []), (78, .if_icmp .eq 5, 3, [83]), (81, .iconst 0, 1, []), (82, .ireturn, 1, []), (83, .iload 8, 2, []), (85, .istore 6, 2, []), (87, .iload_n 3, 1, []), (88, .aload_n 0, 1, []), (89, .iload 8, 2, []), (91, .iconst 1, 1, []), (92, .invokevirtual 28, 3, []), (95, .iadd, 1, []), (96, .istore_n 3, 1, []), (97, .iload 4, 2, []), (99, .aload_n 0, 1, []), (100, .iload 8, 2, []), (102, .iconst 2, 1, []), (103, .invokevirtual 28, 3, []), (106, .iadd, 1, []), (107, .istore 4, 2, []), (109, .iload 5, 2, []), (111, .aload_n 0, 1, []), (112, .iload 8, 2, []), (114, .iconst 3, 1, []), (115, .invokevirtual 28, 3, []), (118, .iadd, 1, []), (119, .istore 5, 2, []), (121, .aload_n 0, 1, []), (122, .iload 8, 2, []), (124, .iconst 4, 1, []), (125, .invokevirtual 28, 3, []), (128, .istore 9, 2, []), (130, .aload_n 0, 1, []), (131, .iload 8, 2, []), (133, .iconst 5, 1, []), (134, .invokevirtual 28, 3, []), (137, .istore 10, 2, []), (139, .iload 9, 2, []), (141, .iconst 1, 1, []), (142, .if_icmp .eq 29, 3, [171]), (145, .iload 9, 2, []), (147, .iconst 3, 1, []), (148, .if_icmp .eq 23, 3, [171]), (151, .iload 9, 2, []), (153, .iconst 5, 1, []), (154, .if_icmp .eq 17, 3, [171]), (157, .iload 9, 2, []), (159, .bipush 9, 2, []), (161, .if_icmp .eq 10, 3, [171]), (164, .iload 9, 2, []), (166, .bipush 15, 2, []), (168, .if_icmp .ne 7, 3, [175]), (171, .iconst 1, 1, []), (172, .goto 4, 3, [176]), (175, .iconst 0, 1, []), (176, .istore 11, 2, []), (178, .iload 9, 2, []), (180, .iconst 2, 1, []), (181, .iand, 1, []), (182, .ifCond .le 12, 3, [194]), (185, .aload_n 0, 1, []), (186, .iconst 2, 1, []), (187, .invokevirtual 9, 3, []), (190, .iconst 2, 1, []), (191, .if_icmp .eq 58, 3, [249]), (194, .iload 9, 2, []), (196, .iconst 4, 1, []), (197, .iand, 1, []), (198, .ifCond .le 12, 3, [210]), (201, .aload_n 0, 1, []), (202, .iconst 4, 1, []), (203, .invokevirtual 9, 3, []), (206, .iconst 2, 1, []), (207, .if_icmp .eq 42, 3, [249]), (210, .iload 9, 2, []), (212, .bipush 8, 2, []), (214, .iand, 1, []), (215, .ifCond .le 38, 3, [253]), (218, .aload_n 0, 1, []), (219, .iconst 2, 1, []), (220, .invokevirtual 9, 3, []), (223, .iconst 2, 1, []), (224, .if_icmp .ne 7, 3, [231]), (227, .iconst 1, 1, []), (228, .goto 4, 3, [232]), (231, .iconst 0, 1, []), (232, .aload_n 0, 1, []), (233, .iconst 4, 1, []), (234, .invokevirtual 9, 3, []), (237, .iconst 2, 1, []), (238, .if_icmp .ne 7, 3, [245]), (241, .iconst 1, 1, []), (242, .goto 4, 3, [246]), (245, .iconst 0, 1, []), (246, .if_icmp .eq 7, 3, [253]), (249, .iconst 1, 1, []), (250, .goto 4, 3, [254]), (253, .iconst 0, 1, []), (254, .istore 12, 2, []), (256, .aload_n 0, 1, []), (257, .iconst 2, 1, []), (258, .invokevirtual 9, 3, []), (261, .ifCond .gt 11, 3, [272]), (264, .iload 9, 2, []), (266, .bipush 10, 2, []), (268, .iand, 1, []), (269, .ifCond .ne 23, 3, [292]), (272, .aload_n 0, 1, []), (273, .iconst 4, 1, []), (274, .invokevirtual 9, 3, []), (277, .ifCond .gt 11, 3, [288]), (280, .iload 9, 2, []), (282, .bipush 12, 2, []), (284, .iand, 1, []), (285, .ifCond .ne 7, 3, [292]), (288, .iconst 1, 1, []), (289, .goto 4, 3, [293]), (292, .iconst 0, 1, []), (293, .istore 13, 2, []), (295, .iload 11, 2, []), (297, .ifCond .eq 68, 3, [365]), (300, .iload 10, 2, []), (302, .iload 12, 2, []), (304, .ifCond .eq 7, 3, [311]), (307, .iconst 1, 1, []), (308, .goto 4, 3, [312]), (311, .iconst 0, 1, []), (312, .if_icmp .ne 53, 3, [365]), (315, .iload 13, 2, []), (317, .ifCond .eq 48, 3, [365]), (320, .aload_n 0, 1, []), (321, .iload 8, 2, []), (323, .bipush 6, 2, []), (325, .invokevirtual 28, 3, []), (328, .iload_n 2, 1, []), (329, .iconst 1, 1, []), (330, .isub, 1, []), (331, .if_icmp .gt 34, 3, [365]), (334, .aload_n 0, 1, []), (335, .iload 8, 2, []), (337, .bipush 7, 2, []), (339, .invokevirtual 28, 3, []), (342, .aload_n 0, 1, []), (343, .iload 8, 2, []), (345, .iconst 1, 1, []), (346, .invokevirtual 28, 3, []), (349, .if_icmp .ge 16, 3, [365]), (352, .aload_n 0, 1, []), (353, .iload 8, 2, []), (355, .bipush 8, 2, []), (357, .invokevirtual 28, 3, []), (360, .bipush (-2), 2, []), (362, .if_icmp .eq 5, 3, [367]), (365, .iconst 0, 1, []), (366, .ireturn, 1, []), (367, .iinc 7 1, 3, []), (370, .goto (-337), 3, [33]), (373, .iconst 0, 1, []), (374, .istore 7, 2, []), (376, .iconst 0, 1, []), (377, .istore 8, 2, []), (379, .iconst 0, 1, []), (380, .istore 9, 2, []), (382, .iload 9, 2, []), (384, .iload_n 1, 1, []), (385, .if_icmp .ge 167, 3, [552]), (388, .aload_n 0, 1, []), (389, .iload 9, 2, []), (391, .invokevirtual 22, 3, []), (394, .istore 10, 2, []), (396, .iload 10, 2, []), (398, .iload 9, 2, []), (400, .if_icmp .gt 41, 3, [441]), (403, .iload 10, 2, []), (405, .ifCond .lt 36, 3, [441]), (408, .aload_n 0, 1, []), (409, .iload 10, 2, []), (411, .invokevirtual 25, 3, []), (414, .aload_n 0, 1, []), (415, .iload 9, 2, []), (417, .invokevirtual 25, 3, []), (420, .if_icmp .ne 21, 3, [441]), (423, .iload 10, 2, []), (425, .iload 9, 2, []), (427, .if_icmp .eq 16, 3, [443]), (430, .aload_n 0, 1, []), (431, .iload 9, 2, []), (433, .iconst 0, 1, []), (434, .invokevirtual 28, 3, []), (437, .iconst (-1), 1, []), (438, .if_icmp .eq 5, 3, [443]), (441, .iconst 0, 1, []), (442, .ireturn, 1, []), (443, .iconst 0, 1, []), (444, .istore 11, 2, []), (446, .iload 11, 2, []), (448, .iconst 4, 1, []), (449, .if_icmp .ge 97, 3, [546]), (452, .aload_n 0, 1, []), (453, .iload 9, 2, []), (455, .iload 11, 2, []), (457, .invokevirtual 15, 3, []), (460, .istore 12, 2, []), (462, .iload 8, 2, []), (464, .iload 12, 2, []), (466, .ifCond .ge 7, 3, [473]), (469, .iconst 1, 1, []), (470, .goto 4, 3, [474]), (473, .iconst 0, 1, []), (474, .iadd, 1, []), (475, .istore 8, 2, []), (477, .iload 7, 2, []), (479, .iload 12, 2, []), (481, .ifCond .lt 22, 3, [503]), (484, .aload_n 0, 1, []), (485, .iload 12, 2, []), (487, .invokevirtual 25, 3, []), (490, .aload_n 0, 1, []), (491, .iload 9, 2, []), (493, .invokevirtual 25, 3, []), (496, .if_icmp .eq 7, 3, [503]), (499, .iconst 1, 1, []), (500, .goto 4, 3, [504]), (503, .iconst 0, 1, []), (504, .iadd, 1, []), (505, .istore 7, 2, []), (507, .iload 12, 2, []), (509, .ifCond .lt 31, 3, [540]), (512, .aload_n 0, 1, []), (513, .iload 12, 2, []), (515, .invokevirtual 25, 3, []), (518, .aload_n 0, 1, []), (519, .iload 9, 2, []), (521, .invokevirtual 25, 3, []), (524, .if_icmp .ne 16, 3, [540]), (527, .aload_n 0, 1, []), (528, .iload 12, 2, []), (530, .invokevirtual 22, 3, []), (533, .iload 10, 2, []), (535, .if_icmp .eq 5, 3, [540]), (538, .iconst 0, 1, []), (539, .ireturn, 1, []), (540, .iinc 11 1, 3, []), (543, .goto (-97), 3, [446]), (546, .iinc 9 1, 3, []), (549, .goto (-167), 3, [382]), (552, .iload_n 3, 1, []), (553, .iload_n 1, 1, []), (554, .if_icmp .ne 41, 3, [595]), (557, .iload 4, 2, []), (559, .iload 7, 2, []), (561, .if_icmp .ne 34, 3, [595]), (564, .iload 5, 2, []), (566, .iload 8, 2, []), (568, .if_icmp .ne 27, 3, [595]), (571, .aload_n 0, 1, []), (572, .iload_n 2, 1, []), (573, .invokevirtual 19, 3, []), (576, .bipush (-5), 2, []), (578, .if_icmp .ne 17, 3, [595]), (581, .aload_n 0, 1, []), (582, .iconst (-1), 1, []), (583, .invokevirtual 19, 3, []), (586, .bipush (-2), 2, []), (588, .if_icmp .ne 7, 3, [595]), (591, .iconst 1, 1, []), (592, .goto 4, 3, [596]), (595, .iconst 0, 1, []), (596, .ireturn, 1, [])]
theorem tbL_parts_ok : tbOK cL_parts tbL_parts = true := by decide +kernel
def tbL_greatest : TB := [(0, .bipush (-5), 2, []), (2, .istore_n 2, 1, []), (3, .iconst 0, 1, []), (4, .istore_n 3, 1, []), (5, .iload_n 3, 1, []), (6, .aload_n 0, 1, []), (7, .bipush 6, 2, []), (9, .invokevirtual 9, 3, []), (12, .if_icmp .ge 50, 3, [62]), (15, .aload_n 0, 1, []), (16, .iload_n 3, 1, []), (17, .invokevirtual 19, 3, []), (20, .istore 4, 2, []), (22, .aload_n 0, 1, []), (23, .iload 4, 2, []), (25, .iconst 0, 1, []), (26, .invokevirtual 28, 3, []), (29, .iload_n 1, 1, []), (30, .if_icmp .ne 26, 3, [56]), (33, .iload_n 2, 1, []), (34, .ifCond .lt 19, 3, [53]), (37, .aload_n 0, 1, []), (38, .iload 4, 2, []), (40, .iconst 1, 1, []), (41, .invokevirtual 28, 3, []), (44, .aload_n 0, 1, []), (45, .iload_n 2, 1, []), (46, .iconst 1, 1, []), (47, .invokevirtual 28, 3, []), (50, .if_icmp .le 6, 3, [56]), (53, .iload 4, 2, []), (55, .istore_n 2, 1, []), (56, .iinc 3 1, 3, []), (59, .goto (-54), 3, [5]), (62, .aload_n 0, 1, []), (63, .iload_n 1, 1, []), (64, .invokevirtual 31, 3, []), (67, .iload_n 2, 1, []), (68, .if_icmp .ne 7, 3, [75]), (71, .iconst 1, 1, []), (72, .goto 4, 3, [76]), (75, .iconst 0, 1, []), (76, .ireturn, 1, [])]
theorem tbL_greatest_ok : tbOK cL_greatest tbL_greatest = true := by decide +kernel
def tbL_distances : TB := [(0, .aload_n 0, 1, []), (1, .iconst 0, 1, []), (2, .invokevirtual 9, 3, []), (5, .aload_n 0, 1, []), (6, .iconst 1, 1, []), (7, .invokevirtual 9, 3, []), (10, .imul, 1, []), (11, .istore 5, 2, []), (13, .aload_n 0, 1, []), (14, .iload_n 2, 1, []), (15, .iload_n 3, 1, []), (16, .invokevirtual 34, 3, []), (19, .istore 6, 2, []), (21, .aload_n 0, 1, []), (22, .iload_n 3, 1, []), (23, .iload_n 2, 1, []), (24, .invokevirtual 34, 3, []), (27, .iload 6, 2, []), (29, .if_icmp .ne 12, 3, [41]), (32, .aload_n 0, 1, []), (33, .iload_n 2, 1, []), (34, .iload_n 2, 1, []), (35, .invokevirtual 34, 3, []), (38, .ifCond .eq 5, 3, [43]), (41, .iconst 0, 1, []), (42, .ireturn, 1, []), (43, .iconst 0, 1, []), (44, .istore 7, 2, []), (46, .iload 7, 2, []), (48, .iconst 4, 1, []), (49, .if_icmp .ge 157, 3, [206]), (52, .aload_n 0, 1, []), (53, .iload_n 3, 1, []), (54, .iload 7, 2, []), (56, .invokevirtual 15, 3, []), (59, .istore 8, 2, []), (61, .iload 8, 2, []), (63, .ifCond .lt 28, 3, [91]), (66, .aload_n 1, 1, []), (67, .aload_n 0, 1, []), (68, .iload_n 3, 1, []), (69, .invokevirtual 25, 3, []), (72, .iaload, 1, []), (73, .ifCond .le 18, 3, [91]), (76, .aload_n 1, 1, []), (77, .aload_n 0, 1, []), (78, .iload 8, 2, []), (80, .invokevirtual 25, 3, []), (83, .iaload, 1, []), (84, .ifCond .le 7, 3, [91]), (87, .iconst 1, 1, []), (88, .goto 4, 3, [92]), (91, .iconst 0, 1, []), (92, .istore 9, 2, []), (94, .iload 9, 2, []), (96, .ifCond .eq 13, 3, [109]), (99, .aload_n 0, 1, []), (100, .iload_n 2, 1, []), (101, .iload 8, 2, []), (103, .invokevirtual 34, 3, []), (106, .goto 5, 3, [111]), (109, .bipush (-4), 2, []), (111, .istore 10, 2, []), (113, .iload 9, 2, []), (115, .ifCond .eq 22, 3, [137]), (118, .aload_n 1, 1, []), (119, .aload_n 0, 1, []), (120, .iload_n 3, 1, []), (121, .invokevirtual 25, 3, []), (124, .iaload, 1, []), (125, .aload_n 1, 1, []), (126, .aload_n 0, 1, []), (127, .iload 8, 2, []), (129, .invokevirtual 25, 3, []), (132, .iaload, 1, []), (133, .iadd, 1, []), (134, .goto 4, 3, [138]), (137, .iconst 0, 1, []), (138, .istore 11, 2, []), (140, .iload 9, 2, []), (142, .ifCond .eq 26, 3, [168]), (145, .iload 6, 2, []), (147, .ifCond .ge 7, 3, [154]), (150, .iconst 1, 1, []), (151, .goto 4, 3, [155]), (154, .iconst 0, 1, []), (155, .iload 10, 2, []), (157, .ifCond .ge 7, 3, [164]), (160, .iconst 1, 1, []), (161, .goto 4, 3, [165]), (164, .iconst 0, 1, []), (165, .if_icmp .ne 33, 3, [198]), (168, .iload 9, 2, []), (170, .ifCond .eq 30, 3, [200]), (173, .iload 6, 2, []), (175, .ifCond .lt 25, 3, [200]), (178, .iload 10, 2, []), (180, .iload 6, 2, []), (182, .iload 11, 2, []), (184, .iadd, 1, []), (185, .if_icmp .gt 13, 3, [198]), (188, .iload 6, 2, []), (190, .iload 10, 2, []), (192, .iload 11, 2, []), (194, .iadd, 1, []), (195, .if_icmp .le 5, 3, [200]), (198, .iconst 0, 1, []), (199, .ireturn, 1, []), (200, .iinc 7 1, 3, []), (203, .goto (-157), 3, [46]), (206, .aload_n 0, 1, []), (207, .iload_n 2, 1, []), (208, .iload_n 3, 1, []), (209, .iconst (-1), 1, []), (210, .invokevirtual 37, 3, []), (213, .istore 7, 2, []), (215, .iload 6, 2, []), (217, .ifCond .ge 48, 3, [265]), (220, .iload 6, 2, []), (222, .bipush (-4), 2, []), (224, .if_icmp .ne 39, 3, [263]), (227, .iload 7, 2, []), (229, .bipush (-4), 2, []), (231, .if_icmp .ne 32, 3, [263]), (234, .aload_n 0, 1, []), (235, .iload_n 2, 1, []), (236, .iload_n 3, 1, []), (237, .iconst 0, 1, []), (238, .invokevirtual 37, 3, []), (241, .bipush (-4), 2, []), (243, .if_icmp .ne 20, 3, [263]), (246, .aload_n 0, 1, []), (247, .iload_n 2, 1, []), (248, .iload_n 3, 1, []), (249, .bipush (-2), 2, []), (251, .invokevirtual 37, 3, []), (254, .bipush (-2), 2, []), (256, .if_icmp .ne 7, 3, [263]), (259, .iconst 1, 1, []), (260, .goto 4, 3, [264]), (263, .iconst 0, 1, []), (264, .ireturn, 1, []), (265, .iconst 0, 1, []), (266, .istore 8, 2, []), (268, .iconst 0, 1, []), (269, .istore 9, 2, []), (271, .iload 9, 2, []), (273, .iload 7, 2, []), (275, .if_icmp .ge 206, 3, [481]), (278, .aload_n 0, 1, []), (279, .iload_n 2, 1, []), (280, .iload_n 3, 1, []), (281, .iload 9, 2, []), (283, .invokevirtual 37, 3, []), (286, .istore 10, 2, []), (288, .aload_n 0, 1, []), (289, .iload_n 2, 1, []), (290, .iload_n 3, 1, []), (291, .iload 9, 2, []), (293, .iconst 1, 1, []), (294, .iadd, 1, []), (295, .invokevirtual 37, 3, []), (298, .istore 11, 2, []), (300, .aload_n 1, 1, []), (301, .aload_n 0, 1, []), (302, .iload 10, 2, []), (304, .invokevirtual 25, 3, []), (307, .iaload, 1, []), (308, .aload_n 1, 1, []), (309, .aload_n 0, 1, []), (310, .iload 11, 2, []), (312, .invokevirtual 25, 3, []), (315, .iaload, 1, []), (316, .iadd, 1, []), (317, .istore 12, 2, []), (319, .iconst 0, 1, []), (320, .istore 13, 2, []), (322, .iconst 0, 1, []), (323, .istore 14, 2, []), (325, .iload 14, 2, []), (327, .iconst 4, 1, []), (328, .if_icmp .ge 113, 3, [441]), (331, .aload_n 0, 1, []), (332, .iload 10, 2, []), (334, .iload 14, 2, []), (336, .invokevirtual 15, 3, []), (339, .istore 15, 2, []), (341, .iload 15, 2, []), (343, .ifCond .lt 53, 3, [396]), (346, .aload_n 1, 1, []), (347, .aload_n 0, 1, []), (348, .iload 15, 2, []), (350, .invokevirtual 25, 3, []), (353, .iaload, 1, []), (354, .ifCond .le 42, 3, [396]), (357, .aload_n 0, 1, []), (358, .iload 15, 2, []), (360, .iload_n 3, 1, []), (361, .invokevirtual 34, 3, []), (364, .aload_n 1, 1, []), (365, .aload_n 0, 1, []), (366, .iload 15, 2, []), (368, .invokevirtual 25, 3, []), (371, .iaload, 1, []), (372, .iadd, 1, []), (373, .aload_n 1, 1, []), (374, .aload_n 0, 1, []), (375, .iload 10, 2, []), (377, .invokevirtual 25, 3, []), (380, .iaload, 1, []), (381, .iadd, 1, []), (382, .aload_n 0, 1, []), (383, .iload 10, 2, []), (385, .iload_n 3, 1, []), (386, .invokevirtual 34, 3, []), (389, .if_icmp .ne 7, 3, [396]), (392, .iconst 1, 1, []), (393, .goto 4, 3, [397]), (396, .iconst 0, 1, []), (397, .istore 16, 2, []), (399, .iload 16, 2, []), (401, .ifCond .eq 17, 3, [418]), (404, .iload 13, 2, []), (406, .ifCond .ne 12, 3, [418]), (409, .iload 15, 2, []), (411, .iload 11, 2, []), (413, .if_icmp .eq 5, 3, [418]), (416, .iconst 0, 1, []), (417, .ireturn, 1, []), (418, .iload 13, 2, []), (420, .ifCond .ne 8, 3, [428]), (423, .iload 16, 2, []), (425, .ifCond .eq 7, 3, [432]), (428, .iconst 1, 1, []), (429, .goto 4, 3, [433]), (432, .iconst 0, 1, []), (433, .istore 13, 2, []), (435, .iinc 14 1, 3, []), (438, .goto (-113), 3, [325]), (441, .iload 8, 2, []), (443, .iload 12, 2, []), (445, .iadd, 1, []), (446, .istore 8, 2, []), (448, .iload 13, 2, []), (450, .ifCond .eq 23, 3, [473]), (453, .aload_n 0, 1, []), (454, .iload 10, 2, []), (456, .iload_n 3, 1, []), (457, .invokevirtual 34, 3, []), (460, .aload_n 0, 1, []), (461, .iload 11, 2, []), (463, .iload_n 3, 1, []), (464, .invokevirtual 34, 3, []), (467, .iload 12, 2, []), (469, .iadd, 1, []), (470, .if_icmp .eq 5, 3, [475]), (473, .iconst 0, 1, []), (474, .ireturn, 1, []), (475, .iinc 9 1, 3, []), (478, .goto (-207), 3, [271]), (481, .aload_n 0, 1, []), (482, .iload_n 2, 1, []), (483, .invokevirtual 41, 3, []), (486, .istore 9, 2, []), (488, .aload_n 0, 1, []), (489, .iload_n 2, 1, []), (490, .iload 9, 2, []), (492, .invokevirtual 34, 3, []), (495, .istore 10, 2, []), (497, .iconst 0, 1, []), (498, .istore 11, 2, []), (500, .iload 4, 2, []), (502, .bipush 6, 2, []), (504, .invokestatic 44, 3, []), (507, .istore 12, 2, []), (509, .bipush (-5), 2, []), (511, .istore 13, 2, []), (513, .iconst 0, 1, []), (514, .istore 14, 2, []), (516, .iload 14, 2, []), (518, .iload 5, 2, []), (520, .if_icmp .ge 105, 3, [625]), (523, .aload_n 0, 1, []), (524, .iload_n 2, 1, []), (525, .iload 14, 2, []), (527, .invokevirtual 34, 3, []), (530, .istore 15, 2, []), (532, .iload 11, 2, []), (534, .iload 15, 2, []), (536, .ifCond .lt 14, 3, [550]), (539, .iload 15, 2, []), (541, .iload 6, 2, []), (543, .if_icmp .gt 7, 3, [550]), (546, .iconst 1, 1, []), (547, .goto 4, 3, [551]), (550, .iconst 0, 1, []), (551, .iadd, 1, []), (552, .istore 11, 2, []), (554, .iload 15, 2, []), (556, .iload 10, 2, []), (558, .if_icmp .gt 17, 3, [575]), (561, .iload 15, 2, []), (563, .iload 10, 2, []), (565, .if_icmp .ne 12, 3, [577]), (568, .iload 14, 2, []), (570, .iload 9, 2, []), (572, .if_icmp .ge 5, 3, [577]), (575, .iconst 0, 1, []), (576, .ireturn, 1, []), (577, .iload 15, 2, []), (579, .ifCond .lt 36, 3, [615]), (582, .aload_n 0, 1, []), (583, .iload 14, 2, []), (585, .invokevirtual 25, 3, []), (588, .iload 12, 2, []), (590, .if_icmp .ne 25, 3, [615]), (593, .iload 13, 2, []), (595, .ifCond .lt 15, 3, [610]), (598, .iload 15, 2, []), (600, .aload_n 0, 1, []), (601, .iload_n 2, 1, []), (602, .iload 13, 2, []), (604, .invokevirtual 34, 3, []), (607, .if_icmp .ge 8, 3, [615]), (610, .iload 14, 2, []), (612, .goto 5, 3, [617]), (615, .iload 13, 2, []), (617, .istore 13, 2, []), (619, .iinc 14 1, 3, []), (622, .goto (-106), 3, [516]), (625, .iload 8, 2, []), (627, .iload 6, 2, []), (629, .if_icmp .ne 92, 3, [721]), (632, .aload_n 0, 1, []), (633, .iload_n 2, 1, []), (634, .iload_n 3, 1, []), (635, .iconst 0, 1, []), (636, .invokevirtual 37, 3, []), (639, .iload_n 2, 1, []), (640, .if_icmp .ne 81, 3, [721]), (643, .aload_n 0, 1, []), (644, .iload_n 2, 1, []), (645, .iload_n 3, 1, []), (646, .iload 7, 2, []), (648, .invokevirtual 37, 3, []), (651, .iload_n 3, 1, []), (652, .if_icmp .ne 69, 3, [721]), (655, .aload_n 0, 1, []), (656, .iload_n 2, 1, []), (657, .iload_n 3, 1, []), (658, .iload 7, 2, []), (660, .iconst 1, 1, []), (661, .iadd, 1, []), (662, .invokevirtual 37, 3, []), (665, .bipush (-5), 2, []), (667, .if_icmp .ne 54, 3, [721]), (670, .aload_n 0, 1, []), (671, .iload_n 2, 1, []), (672, .iload 6, 2, []), (674, .invokevirtual 49, 3, []), (677, .iload 11, 2, []), (679, .if_icmp .ne 42, 3, [721]), (682, .aload_n 0, 1, []), (683, .iload_n 2, 1, []), (684, .iconst (-1), 1, []), (685, .invokevirtual 49, 3, []), (688, .bipush (-2), 2, []), (690, .if_icmp .ne 31, 3, [721]), (693, .aload_n 0, 1, []), (694, .iload_n 2, 1, []), (695, .iload 12, 2, []), (697, .invokevirtual 52, 3, []), (700, .iload 13, 2, []), (702, .if_icmp .ne 19, 3, [721]), (705, .aload_n 0, 1, []), (706, .iload_n 2, 1, []), (707, .bipush 6, 2, []), (709, .invokevirtual 52, 3, []), (712, .bipush (-2), 2, []), (714, .if_icmp .ne 7, 3, [721]), (717, .iconst 1, 1, []), (718, .goto 4, 3, [722]), (721, .iconst 0, 1, []), (722, .ireturn, 1, [])]
theorem tbL_distances_ok : tbOK cL_distances tbL_distances = true := by decide +kernel
def tbL_print : TB := [(0, .lconst 0, 1, []), (1, .lstore_n 1, 1, []), (2, .iconst 0, 1, []), (3, .istore_n 3, 1, []), (4, .iload_n 3, 1, []), (5, .aload_n 0, 1, []), (6, .iconst 0, 1, []), (7, .invokevirtual 9, 3, []), (10, .aload_n 0, 1, []), (11, .iconst 1, 1, []), (12, .invokevirtual 9, 3, []), (15, .imul, 1, []), (16, .if_icmp .ge 28, 3, [44]), (19, .ldc2_w 55, 3, []), (22, .lload_n 1, 1, []), (23, .lmul, 1, []), (24, .ldc2_w 57, 3, []), (27, .aload_n 0, 1, []), (28, .iload_n 3, 1, []), (29, .invokevirtual 25, 3, []), (32, .i2l, 1, []), (33, .lmul, 1, []), (34, .ladd, 1, []), (35, .lconst 1, 1, []), (36, .ladd, 1, []), (37, .lstore_n 1, 1, []), (38, .iinc 3 1, 3, []), (41, .goto (-37), 3, [4]), (44, .lload_n 1, 1, []), (45, .lreturn, 1, [])]
theorem tbL_print_ok : tbOK cL_print tbL_print = true := by decide +kernel
def tbL_walks : TB := [(0, .aload_n 0, 1, []), (1, .invokevirtual 59, 3, []), (4, .pop, 1, []), (5, .iload_n 1, 1, []), (6, .istore 5, 2, []), (8, .iload_n 2, 1, []), (9, .istore 6, 2, []), (11, .iconst 0, 1, []), (12, .istore 7, 2, []), (14, .iconst 0, 1, []), (15, .istore 8, 2, []), (17, .iconst 1, 1, []), (18, .istore 9, 2, []), (20, .iconst 1, 1, []), (21, .istore 10, 2, []), (23, .bipush 32, 2, []), (25, .newarray .int, 2, []), (27, .astore 11, 2, []), (29, .aload 11, 2, []), (31, .iconst 0, 1, []), (32, .iload_n 1, 1, []), (33, .iastore, 1, []), (34, .aload_n 0, 1, []), (35, .iconst 0, 1, []), (36, .invokevirtual 9, 3, []), (39, .istore 12, 2, []), (41, .iconst 0, 1, []), (42, .istore 13, 2, []), (44, .iconst 0, 1, []), (45, .istore 14, 2, []), (47, .iload 14, 2, []), (49, .bipush 20, 2, []), (51, .if_icmp .ge 348, 3, [399]), (54, .iload 14, 2, []), (56, .bipush 10, 2, []), (58, .if_icmp .ge 7, 3, [65]), (61, .iload_n 3, 1, []), (62, .goto 5, 3, [67]), (65, .iload 4, 2, []), (67, .iconst 3, 1, []), (68, .iload 14, 2, []), (70, .bipush 10, 2, []), (72, .irem, 1, []), (73, .imul, 1, []), (74, .ishr, 1, []), (75, .bipush 7, 2, []), (77, .iand, 1, []), (78, .istore 15, 2, []), (80, .aload_n 0, 1, []), (81, .iload 15, 2, []), (83, .iconst 4, 1, []), (84, .if_icmp .ge 8, 3, [92]), (87, .bipush 102, 2, []), (89, .goto 17, 3, [106]), (92, .iload 15, 2, []), (94, .bipush 6, 2, []), (96, .if_icmp .ge 8, 3, [104]), (99, .bipush 114, 2, []), (101, .goto 5, 3, [106]), (104, .bipush 108, 2, []), (106, .invokevirtual 63, 3, []), (109, .istore 13, 2, []), (111, .iload 10, 2, []), (113, .ifCond .eq 233, 3, [346]), (116, .iload 15, 2, []), (118, .iconst 4, 1, []), (119, .if_icmp .ge 227, 3, [346]), (122, .aload_n 0, 1, []), (123, .iload 5, 2, []), (125, .iload 6, 2, []), (127, .invokevirtual 15, 3, []), (130, .istore 16, 2, []), (132, .iload 16, 2, []), (134, .ifCond .lt 7, 3, [141]), (137, .iconst 1, 1, []), (138, .goto 4, 3, [142]), (141, .iconst 0, 1, []), (142, .istore 10, 2, []), (144, .iload 5, 2, []), (146, .iload 12, 2, []), (148, .irem, 1, []), (149, .istore 17, 2, []), (151, .iload 6, 2, []), (153, .ifCond .ne 12, 3, [165]), (156, .iload 17, 2, []), (158, .iload 12, 2, []), (160, .iconst 1, 1, []), (161, .isub, 1, []), (162, .if_icmp .eq 14, 3, [176]), (165, .iload 6, 2, []), (167, .iconst 2, 1, []), (168, .if_icmp .ne 12, 3, [180]), (171, .iload 17, 2, []), (173, .ifCond .ne 7, 3, [180]), (176, .iconst 1, 1, []), (177, .goto 4, 3, [181]), (180, .iconst 0, 1, []), (181, .istore 18, 2, []), (183, .iload 6, 2, []), (185, .iconst 1, 1, []), (186, .if_icmp .ne 18, 3, [204]), (189, .iload 5, 2, []), (191, .iload 12, 2, []), (193, .idiv, 1, []), (194, .aload_n 0, 1, []), (195, .iconst 1, 1, []), (196, .invokevirtual 9, 3, []), (199, .iconst 1, 1, []), (200, .isub, 1, []), (201, .if_icmp .eq 16, 3, [217]), (204, .iload 6, 2, []), (206, .iconst 3, 1, []), (207, .if_icmp .ne 14, 3, [221]), (210, .iload 5, 2, []), (212, .iload 12, 2, []), (214, .if_icmp .ge 7, 3, [221]), (217, .iconst 1, 1, []), (218, .goto 4, 3, [222]), (221, .iconst 0, 1, []), (222, .istore 19, 2, []), (224, .iload 18, 2, []), (226, .ifCond .eq 12, 3, [238]), (229, .aload_n 0, 1, []), (230, .iconst 2, 1, []), (231, .invokevirtual 9, 3, []), (234, .iconst 2, 1, []), (235, .if_icmp .eq 17, 3, [252]), (238, .iload 19, 2, []), (240, .ifCond .eq 16, 3, [256]), (243, .aload_n 0, 1, []), (244, .iconst 4, 1, []), (245, .invokevirtual 9, 3, []), (248, .iconst 2, 1, []), (249, .if_icmp .ne 7, 3, [256]), (252, .iconst 1, 1, []), (253, .goto 4, 3, [257]), (256, .iconst 0, 1, []), (257, .istore 20, 2, []), (259, .iload 10, 2, []), (261, .ifCond .eq 82, 3, [343]), (264, .iload 20, 2, []), (266, .ifCond .eq 10, 3, [276]), (269, .iconst 1, 1, []), (270, .iload 7, 2, []), (272, .isub, 1, []), (273, .goto 5, 3, [278]), (276, .iload 7, 2, []), (278, .istore 7, 2, []), (280, .iinc 8 1, 3, []), (283, .iload 16, 2, []), (285, .istore 5, 2, []), (287, .iconst 0, 1, []), (288, .istore 21, 2, []), (290, .iconst 0, 1, []), (291, .istore 22, 2, []), (293, .iload 22, 2, []), (295, .iload 9, 2, []), (297, .if_icmp .ge 31, 3, [328]), (300, .iload 21, 2, []), (302, .ifCond .ne 13, 3, [315]), (305, .aload 11, 2, []), (307, .iload 22, 2, []), (309, .iaload, 1, []), (310, .iload 5, 2, []), (312, .if_icmp .ne 7, 3, [319]), (315, .iconst 1, 1, []), (316, .goto 4, 3, [320]), (319, .iconst 0, 1, []), (320, .istore 21, 2, []), (322, .iinc 22 1, 3, []), (325, .goto (-32), 3, [293]), (328, .iload 21, 2, []), (330, .ifCond .ne 13, 3, [343]), (333, .aload 11, 2, []), (335, .iload 9, 2, []), (337, .iload 5, 2, []), (339, .iastore, 1, []), (340, .iinc 9 1, 3, []), (343, .goto 50, 3, [393]), (346, .iload 10, 2, []), (348, .ifCond .eq 45, 3, [393]), (351, .iload 15, 2, []), (353, .bipush 6, 2, []), (355, .if_icmp .ge 7, 3, [362]), (358, .iconst 1, 1, []), (359, .goto 4, 3, [363]), (362, .iconst 0, 1, []), (363, .iload 7, 2, []), (365, .ifCond .ne 7, 3, [372]), (368, .iconst 1, 1, []), (369, .goto 4, 3, [373]), (372, .iconst 0, 1, []), (373, .if_icmp .ne 12, 3, [385]), (376, .iload 6, 2, []), (378, .iconst 1, 1, []), (379, .iadd, 1, []), (380, .iconst 4, 1, []), (381, .irem, 1, []), (382, .goto 9, 3, [391]), (385, .iload 6, 2, []), (387, .iconst 3, 1, []), (388, .iadd, 1, []), (389, .iconst 4, 1, []), (390, .irem, 1, []), (391, .istore 6, 2, []), (393, .iinc 14 1, 3, []), (396, .goto (-349), 3, [47]), (399, .aload_n 0, 1, []), (400, .iload_n 1, 1, []), (401, .iload_n 2, 1, []), (402, .iconst 0, 1, []), (403, .invokevirtual 67, 3, []), (406, .iload 5, 2, []), (408, .if_icmp .ne 55, 3, [463]), (411, .aload_n 0, 1, []), (412, .iload_n 1, 1, []), (413, .iload_n 2, 1, []), (414, .iconst 1, 1, []), (415, .invokevirtual 67, 3, []), (418, .iload 6, 2, []), (420, .if_icmp .ne 43, 3, [463]), (423, .aload_n 0, 1, []), (424, .iload_n 1, 1, []), (425, .iload_n 2, 1, []), (426, .iconst 2, 1, []), (427, .invokevirtual 67, 3, []), (430, .iload 7, 2, []), (432, .if_icmp .ne 31, 3, [463]), (435, .aload_n 0, 1, []), (436, .iload_n 1, 1, []), (437, .iload_n 2, 1, []), (438, .iconst 3, 1, []), (439, .invokevirtual 67, 3, []), (442, .iload 8, 2, []), (444, .if_icmp .ne 19, 3, [463]), (447, .aload_n 0, 1, []), (448, .iload_n 1, 1, []), (449, .iload_n 2, 1, []), (450, .iconst 4, 1, []), (451, .invokevirtual 67, 3, []), (454, .iload 9, 2, []), (456, .if_icmp .ne 7, 3, [463]), (459, .iconst 1, 1, []), (460, .goto 4, 3, [464]), (463, .iconst 0, 1, []), (464, .istore 14, 2, []), (466, .aload_n 0, 1, []), (467, .bipush 120, 2, []), (469, .invokevirtual 63, 3, []), (472, .pop, 1, []), (473, .iload 14, 2, []), (475, .ifCond .eq 46, 3, [521]), (478, .aload_n 0, 1, []), (479, .iload_n 1, 1, []), (480, .iload_n 2, 1, []), (481, .iconst 0, 1, []), (482, .invokevirtual 67, 3, []), (485, .bipush (-100), 2, []), (487, .iload 13, 2, []), (489, .isub, 1, []), (490, .if_icmp .ne 31, 3, [521]), (493, .aload_n 0, 1, []), (494, .iload_n 1, 1, []), (495, .iconst 4, 1, []), (496, .iconst 0, 1, []), (497, .invokevirtual 67, 3, []), (500, .bipush (-2), 2, []), (502, .if_icmp .ne 19, 3, [521]), (505, .aload_n 0, 1, []), (506, .iload_n 1, 1, []), (507, .iconst 0, 1, []), (508, .iconst 5, 1, []), (509, .invokevirtual 67, 3, []), (512, .bipush (-2), 2, []), (514, .if_icmp .ne 7, 3, [521]), (517, .iconst 1, 1, []), (518, .goto 4, 3, [522]), (521, .iconst 0, 1, []), (522, .ireturn, 1, [])]
theorem tbL_walks_ok : tbOK cL_walks tbL_walks = true := by decide +kernel
def tbL_edits : TB := [(0, .aload_n 0, 1, []), (1, .iconst 0, 1, []), (2, .invokevirtual 9, 3, []), (5, .aload_n 0, 1, []), (6, .iconst 1, 1, []), (7, .invokevirtual 9, 3, []), (10, .imul, 1, []), (11, .istore 4, 2, []), (13, .iload_n 1, 1, []), (14, .iconst 3, 1, []), (15, .ishr, 1, []), (16, .iload 4, 2, []), (18, .invokestatic 44, 3, []), (21, .istore 5, 2, []), (23, .iload_n 1, 1, []), (24, .bipush 11, 2, []), (26, .ishr, 1, []), (27, .iconst 3, 1, []), (28, .invokestatic 44, 3, []), (31, .istore 6, 2, []), (33, .aload_n 0, 1, []), (34, .invokestatic 70, 3, []), (37, .lstore 7, 2, []), (39, .iload_n 1, 1, []), (40, .iconst 5, 1, []), (41, .invokestatic 44, 3, []), (44, .istore 9, 2, []), (46, .iload 9, 2, []), (48, .iconst 3, 1, []), (49, .if_icmp .ge 171, 3, [220]), (52, .aload_n 0, 1, []), (53, .iload 5, 2, []), (55, .iload 6, 2, []), (57, .invokevirtual 74, 3, []), (60, .istore 10, 2, []), (62, .bipush 64, 2, []), (64, .newarray .int, 2, []), (66, .astore 11, 2, []), (68, .iconst 0, 1, []), (69, .istore 12, 2, []), (71, .iload 12, 2, []), (73, .iload 4, 2, []), (75, .if_icmp .ge 27, 3, [102]), (78, .iload 12, 2, []), (80, .bipush 64, 2, []), (82, .if_icmp .ge 20, 3, [102]), (85, .aload 11, 2, []), (87, .iload 12, 2, []), (89, .aload_n 0, 1, []), (90, .iload 12, 2, []), (92, .invokevirtual 22, 3, []), (95, .iastore, 1, []), (96, .iinc 12 1, 3, []), (99, .goto (-28), 3, [71]), (102, .aload_n 0, 1, []), (103, .iload 5, 2, []), (105, .iload 6, 2, []), (107, .invokevirtual 77, 3, []), (110, .istore 12, 2, []), (112, .iconst 0, 1, []), (113, .istore 13, 2, []), (115, .iconst 0, 1, []), (116, .istore 14, 2, []), (118, .iload 14, 2, []), (120, .iload 4, 2, []), (122, .if_icmp .ge 47, 3, [169]), (125, .iload 14, 2, []), (127, .bipush 64, 2, []), (129, .if_icmp .ge 40, 3, [169]), (132, .iload 13, 2, []), (134, .iload 14, 2, []), (136, .iload 5, 2, []), (138, .if_icmp .eq 21, 3, [159]), (141, .aload_n 0, 1, []), (142, .iload 14, 2, []), (144, .invokevirtual 22, 3, []), (147, .aload 11, 2, []), (149, .iload 14, 2, []), (151, .iaload, 1, []), (152, .if_icmp .eq 7, 3, [159]), (155, .iconst 1, 1, []), (156, .goto 4, 3, [160]), (159, .iconst 0, 1, []), (160, .iadd, 1, []), (161, .istore 13, 2, []), (163, .iinc 14 1, 3, []), (166, .goto (-48), 3, [118]), (169, .aload_n 0, 1, []), (170, .bipush 6, 2, []), (172, .invokevirtual 9, 3, []), (175, .iload 10, 2, []), (177, .if_icmp .ne 38, 3, [215]), (180, .aload_n 0, 1, []), (181, .iload 5, 2, []), (183, .invokevirtual 25, 3, []), (186, .iload 6, 2, []), (188, .if_icmp .ne 27, 3, [215]), (191, .iload 4, 2, []), (193, .bipush 64, 2, []), (195, .if_icmp .gt 13, 3, [208]), (198, .iload 12, 2, []), (200, .iload 13, 2, []), (202, .if_icmp .eq 15, 3, [217]), (205, .goto 10, 3, [215]), (208, .iload 12, 2, []), (210, .iload 13, 2, []), (212, .if_icmp .ge 5, 3, [217]), (215, .iconst (-1), 1, []), (216, .ireturn, 1, []), (217, .goto 265, 3, [482]), (220, .iload 9, 2, []), (222, .iconst 3, 1, []), (223, .if_icmp .ne 65, 3, [288]), (226, .aload_n 0, 1, []), (227, .aload_n 0, 1, []), (228, .iload 5, 2, []), (230, .invokevirtual 22, 3, []), (233, .iconst 1, 1, []), (234, .invokevirtual 28, 3, []), (237, .istore 10, 2, []), (239, .aload_n 0, 1, []), (240, .iload 5, 2, []), (242, .iload 6, 2, []), (244, .invokevirtual 80, 3, []), (247, .istore 11, 2, []), (249, .iload 11, 2, []), (251, .iload 10, 2, []), (253, .if_icmp .lt 30, 3, [283]), (256, .aload_n 0, 1, []), (257, .iload 5, 2, []), (259, .invokevirtual 25, 3, []), (262, .iload 6, 2, []), (264, .if_icmp .ne 19, 3, [283]), (267, .aload_n 0, 1, []), (268, .aload_n 0, 1, []), (269, .iload 5, 2, []), (271, .invokevirtual 22, 3, []), (274, .iconst 1, 1, []), (275, .invokevirtual 28, 3, []), (278, .iload 11, 2, []), (280, .if_icmp .eq 5, 3, [285]), (283, .iconst (-1), 1, []), (284, .ireturn, 1, []), (285, .goto 197, 3, [482]), (288, .aload_n 0, 1, []), (289, .invokevirtual 59, 3, []), (292, .pop, 1, []), (293, .iconst 0, 1, []), (294, .istore 10, 2, []), (296, .aload_n 0, 1, []), (297, .iconst 0, 1, []), (298, .invokevirtual 9, 3, []), (301, .istore 11, 2, []), (303, .iconst 0, 1, []), (304, .istore 12, 2, []), (306, .iconst 0, 1, []), (307, .istore 13, 2, []), (309, .iload 13, 2, []), (311, .iload 4, 2, []), (313, .if_icmp .ge 81, 3, [394]), (316, .iload 13, 2, []), (318, .ifCond .le 18, 3, [336]), (321, .iload 13, 2, []), (323, .iload 11, 2, []), (325, .irem, 1, []), (326, .ifCond .ne 10, 3, [336]), (329, .aload_n 0, 1, []), (330, .bipush 47, 2, []), (332, .invokevirtual 63, 3, []), (335, .pop, 1, []), (336, .iload_n 2, 1, []), (337, .iload 13, 2, []), (339, .bipush 13, 2, []), (341, .irem, 1, []), (342, .iload 13, 2, []), (344, .bipush 29, 2, []), (346, .idiv, 1, []), (347, .iadd, 1, []), (348, .ishr, 1, []), (349, .iconst 3, 1, []), (350, .invokestatic 44, 3, []), (353, .istore 14, 2, []), (355, .iload 10, 2, []), (357, .aload_n 0, 1, []), (358, .iload 13, 2, []), (360, .invokevirtual 25, 3, []), (363, .iload 14, 2, []), (365, .if_icmp .eq 7, 3, [372]), (368, .iconst 1, 1, []), (369, .goto 4, 3, [373]), (372, .iconst 0, 1, []), (373, .iadd, 1, []), (374, .istore 10, 2, []), (376, .aload_n 0, 1, []), (377, .bipush 48, 2, []), (379, .iload 14, 2, []), (381, .iadd, 1, []), (382, .i2c, 1, []), (383, .invokevirtual 63, 3, []), (386, .istore 12, 2, []), (388, .iinc 13 1, 3, []), (391, .goto (-82), 3, [309]), (394, .aload_n 0, 1, []), (395, .invokevirtual 83, 3, []), (398, .iload 10, 2, []), (400, .if_icmp .eq 5, 3, [405]), (403, .iconst (-1), 1, []), (404, .ireturn, 1, []), (405, .aload_n 0, 1, []), (406, .bipush 47, 2, []), (408, .invokevirtual 63, 3, []), (411, .pop, 1, []), (412, .aload_n 0, 1, []), (413, .invokevirtual 83, 3, []), (416, .bipush (-100), 2, []), (418, .iload 12, 2, []), (420, .isub, 1, []), (421, .if_icmp .ne 18, 3, [439]), (424, .iload 12, 2, []), (426, .iload 4, 2, []), (428, .aload_n 0, 1, []), (429, .iconst 1, 1, []), (430, .invokevirtual 9, 3, []), (433, .iadd, 1, []), (434, .iconst 1, 1, []), (435, .isub, 1, []), (436, .if_icmp .eq 5, 3, [441]), (439, .iconst (-1), 1, []), (440, .ireturn, 1, []), (441, .aload_n 0, 1, []), (442, .invokevirtual 59, 3, []), (445, .pop, 1, []), (446, .aload_n 0, 1, []), (447, .bipush 48, 2, []), (449, .invokevirtual 63, 3, []), (452, .pop, 1, []), (453, .aload_n 0, 1, []), (454, .invokevirtual 83, 3, []), (457, .bipush (-101), 2, []), (459, .if_icmp .eq 5, 3, [464]), (462, .iconst (-1), 1, []), (463, .ireturn, 1, []), (464, .aload_n 0, 1, []), (465, .bipush 54, 2, []), (467, .invokevirtual 63, 3, []), (470, .pop, 1, []), (471, .aload_n 0, 1, []), (472, .invokevirtual 83, 3, []), (475, .bipush (-101), 2, []), (477, .if_icmp .eq 5, 3, [482]), (480, .iconst (-1), 1, []), (481, .ireturn, 1, []), (482, .aload_n 0, 1, []), (483, .bipush 8, 2, []), (485, .invokevirtual 9, 3, []), (488, .iload_n 3, 1, []), (489, .bipush 12, 2, []), (491, .if_icmp .ge 9, 3, [500]), (494, .iload_n 3, 1, []), (495, .iconst 1, 1, []), (496, .iadd, 1, []), (497, .goto 5, 3, [502]), (500, .bipush 12, 2, []), (502, .if_icmp .eq 5, 3, [507]), (505, .iconst (-1), 1, []), (506, .ireturn, 1, []), (507, .iload_n 2, 1, []), (508, .bipush 25, 2, []), (510, .ishr, 1, []), (511, .iconst 3, 1, []), (512, .iand, 1, []), (513, .ifCond .ne 43, 3, [556]), (516, .aload_n 0, 1, []), (517, .invokevirtual 86, 3, []), (520, .istore 10, 2, []), (522, .iload 10, 2, []), (524, .iload_n 3, 1, []), (525, .bipush 12, 2, []), (527, .if_icmp .ge 7, 3, [534]), (530, .iload_n 3, 1, []), (531, .goto 5, 3, [536]), (534, .bipush 11, 2, []), (536, .if_icmp .ne 18, 3, [554]), (539, .aload_n 0, 1, []), (540, .invokestatic 70, 3, []), (543, .lload 7, 2, []), (545, .lcmp, 1, []), (546, .ifCond .ne 8, 3, [554]), (549, .iload 10, 2, []), (551, .goto 4, 3, [555]), (554, .iconst (-1), 1, []), (555, .ireturn, 1, []), (556, .iload_n 3, 1, []), (557, .bipush 12, 2, []), (559, .if_icmp .ge 9, 3, [568]), (562, .iload_n 3, 1, []), (563, .iconst 1, 1, []), (564, .iadd, 1, []), (565, .goto 5, 3, [570]), (568, .bipush 12, 2, []), (570, .ireturn, 1, [])]
theorem tbL_edits_ok : tbOK cL_edits tbL_edits = true := by decide +kernel
def tbL_errors : TB := [(0, .aload_n 0, 1, []), (1, .iconst 0, 1, []), (2, .invokevirtual 9, 3, []), (5, .aload_n 0, 1, []), (6, .iconst 1, 1, []), (7, .invokevirtual 9, 3, []), (10, .imul, 1, []), (11, .istore_n 1, 1, []), (12, .bipush (-2), 2, []), (14, .istore_n 2, 1, []), (15, .aload_n 0, 1, []), (16, .iconst 2, 1, []), (17, .iconst 5, 1, []), (18, .invokevirtual 89, 3, []), (21, .iload_n 2, 1, []), (22, .if_icmp .ne 153, 3, [175]), (25, .aload_n 0, 1, []), (26, .iconst 5, 1, []), (27, .bipush 13, 2, []), (29, .invokevirtual 89, 3, []), (32, .iload_n 2, 1, []), (33, .if_icmp .ne 142, 3, [175]), (36, .aload_n 0, 1, []), (37, .iconst 1, 1, []), (38, .iconst 3, 1, []), (39, .iconst 0, 1, []), (40, .invokevirtual 92, 3, []), (43, .iload_n 2, 1, []), (44, .if_icmp .ne 131, 3, [175]), (47, .aload_n 0, 1, []), (48, .iconst 1, 1, []), (49, .iconst 0, 1, []), (50, .aload_n 0, 1, []), (51, .iconst 0, 1, []), (52, .invokevirtual 9, 3, []), (55, .invokevirtual 92, 3, []), (58, .iload_n 2, 1, []), (59, .if_icmp .ne 116, 3, [175]), (62, .aload_n 0, 1, []), (63, .iconst 0, 1, []), (64, .iconst 0, 1, []), (65, .aload_n 0, 1, []), (66, .iconst 1, 1, []), (67, .invokevirtual 9, 3, []), (70, .invokevirtual 92, 3, []), (73, .iload_n 2, 1, []), (74, .if_icmp .ne 101, 3, [175]), (77, .aload_n 0, 1, []), (78, .iconst 0, 1, []), (79, .iconst 1, 1, []), (80, .iconst (-1), 1, []), (81, .invokevirtual 92, 3, []), (84, .iload_n 2, 1, []), (85, .if_icmp .ne 90, 3, [175]), (88, .aload_n 0, 1, []), (89, .bipush 9, 2, []), (91, .invokevirtual 9, 3, []), (94, .iload_n 2, 1, []), (95, .if_icmp .ne 80, 3, [175]), (98, .aload_n 0, 1, []), (99, .iload_n 1, 1, []), (100, .invokevirtual 25, 3, []), (103, .iconst (-1), 1, []), (104, .if_icmp .ne 71, 3, [175]), (107, .aload_n 0, 1, []), (108, .iload_n 1, 1, []), (109, .bipush 9, 2, []), (111, .invokevirtual 15, 3, []), (114, .iconst (-1), 1, []), (115, .if_icmp .ne 60, 3, [175]), (118, .aload_n 0, 1, []), (119, .iconst 0, 1, []), (120, .iconst 4, 1, []), (121, .invokevirtual 15, 3, []), (124, .iload_n 2, 1, []), (125, .if_icmp .ne 50, 3, [175]), (128, .aload_n 0, 1, []), (129, .iload_n 1, 1, []), (130, .bipush 9, 2, []), (132, .invokevirtual 77, 3, []), (135, .iconst (-1), 1, []), (136, .if_icmp .ne 39, 3, [175]), (139, .aload_n 0, 1, []), (140, .iconst 0, 1, []), (141, .bipush 6, 2, []), (143, .invokevirtual 77, 3, []), (146, .iload_n 2, 1, []), (147, .if_icmp .ne 28, 3, [175]), (150, .aload_n 0, 1, []), (151, .iconst (-1), 1, []), (152, .bipush 9, 2, []), (154, .invokevirtual 80, 3, []), (157, .iconst (-1), 1, []), (158, .if_icmp .ne 17, 3, [175]), (161, .aload_n 0, 1, []), (162, .iconst 0, 1, []), (163, .iconst (-1), 1, []), (164, .invokevirtual 80, 3, []), (167, .iload_n 2, 1, []), (168, .if_icmp .ne 7, 3, [175]), (171, .iconst 1, 1, []), (172, .goto 4, 3, [176]), (175, .iconst 0, 1, []), (176, .istore_n 3, 1, []), (177, .iload_n 3, 1, []), (178, .ifCond .eq 156, 3, [334]), (181, .aload_n 0, 1, []), (182, .iload_n 1, 1, []), (183, .bipush 9, 2, []), (185, .bipush 9, 2, []), (187, .invokevirtual 67, 3, []), (190, .iconst (-1), 1, []), (191, .if_icmp .ne 143, 3, [334]), (194, .aload_n 0, 1, []), (195, .iload_n 1, 1, []), (196, .invokevirtual 22, 3, []), (199, .iconst (-1), 1, []), (200, .if_icmp .ne 134, 3, [334]), (203, .aload_n 0, 1, []), (204, .iload_n 1, 1, []), (205, .bipush 9, 2, []), (207, .invokevirtual 28, 3, []), (210, .iconst (-1), 1, []), (211, .if_icmp .ne 123, 3, [334]), (214, .aload_n 0, 1, []), (215, .iconst (-1), 1, []), (216, .iconst 0, 1, []), (217, .invokevirtual 28, 3, []), (220, .iconst (-1), 1, []), (221, .if_icmp .ne 113, 3, [334]), (224, .aload_n 0, 1, []), (225, .bipush 6, 2, []), (227, .invokevirtual 31, 3, []), (230, .iload_n 2, 1, []), (231, .if_icmp .ne 103, 3, [334]), (234, .aload_n 0, 1, []), (235, .iload_n 1, 1, []), (236, .bipush 9, 2, []), (238, .invokevirtual 74, 3, []), (241, .iconst (-1), 1, []), (242, .if_icmp .ne 92, 3, [334]), (245, .aload_n 0, 1, []), (246, .iconst 0, 1, []), (247, .bipush 6, 2, []), (249, .invokevirtual 74, 3, []), (252, .iload_n 2, 1, []), (253, .if_icmp .ne 81, 3, [334]), (256, .aload_n 0, 1, []), (257, .bipush 6, 2, []), (259, .iconst 0, 1, []), (260, .invokevirtual 96, 3, []), (263, .iload_n 2, 1, []), (264, .if_icmp .ne 70, 3, [334]), (267, .aload_n 0, 1, []), (268, .iconst 0, 1, []), (269, .bipush 10, 2, []), (271, .invokevirtual 96, 3, []), (274, .iload_n 2, 1, []), (275, .if_icmp .ne 59, 3, [334]), (278, .aload_n 0, 1, []), (279, .iconst 0, 1, []), (280, .iload_n 1, 1, []), (281, .invokevirtual 34, 3, []), (284, .iconst (-1), 1, []), (285, .if_icmp .ne 49, 3, [334]), (288, .aload_n 0, 1, []), (289, .iload_n 1, 1, []), (290, .iconst 0, 1, []), (291, .bipush (-9), 2, []), (293, .invokevirtual 37, 3, []), (296, .iconst (-1), 1, []), (297, .if_icmp .ne 37, 3, [334]), (300, .aload_n 0, 1, []), (301, .iload_n 1, 1, []), (302, .invokevirtual 41, 3, []), (305, .iconst (-1), 1, []), (306, .if_icmp .ne 28, 3, [334]), (309, .aload_n 0, 1, []), (310, .iload_n 1, 1, []), (311, .iconst (-1), 1, []), (312, .invokevirtual 49, 3, []), (315, .iconst (-1), 1, []), (316, .if_icmp .ne 18, 3, [334]), (319, .aload_n 0, 1, []), (320, .iload_n 1, 1, []), (321, .bipush 9, 2, []), (323, .invokevirtual 52, 3, []), (326, .iconst (-1), 1, []), (327, .if_icmp .ne 7, 3, [334]), (330, .iconst 1, 1, []), (331, .goto 4, 3, [335]), (334, .iconst 0, 1, []), (335, .ireturn, 1, [])]
theorem tbL_errors_ok : tbOK cL_errors tbL_errors = true := by decide +kernel
theorem dX0_init_0 : decode cX0_init 0 = .ok (.aload_n 0, 1) := by decide +kernel
theorem dX0_init_1 : decode cX0_init 1 = .ok (.invokespecial 3, 3) := by decide +kernel
theorem dX0_init_4 : decode cX0_init 4 = .ok (.aload_n 0, 1) := by decide +kernel
theorem dX0_init_5 : decode cX0_init 5 = .ok (.bipush 12, 2) := by decide +kernel
theorem dX0_init_7 : decode cX0_init 7 = .ok (.sipush 144, 3) := by decide +kernel
theorem dX0_init_10 : decode cX0_init 10 = .ok (.multianewarray 9 2, 4) := by decide +kernel
theorem dX0_init_14 : decode cX0_init 14 = .ok (.putfield 11, 3) := by decide +kernel
theorem dX0_init_17 : decode cX0_init 17 = .ok (.return_, 1) := by decide +kernel
theorem dX1_init_0 : decode cX1_init 0 = .ok (.aload_n 0, 1) := by decide +kernel
theorem dX1_init_1 : decode cX1_init 1 = .ok (.invokespecial 3, 3) := by decide +kernel
theorem dX1_init_4 : decode cX1_init 4 = .ok (.aload_n 0, 1) := by decide +kernel
theorem dX1_init_5 : decode cX1_init 5 = .ok (.sipush 144, 3) := by decide +kernel
theorem dX1_init_8 : decode cX1_init 8 = .ok (.newarray .int, 2) := by decide +kernel
theorem dX1_init_10 : decode cX1_init 10 = .ok (.putfield 9, 3) := by decide +kernel
theorem dX1_init_13 : decode cX1_init 13 = .ok (.aload_n 0, 1) := by decide +kernel
theorem dX1_init_14 : decode cX1_init 14 = .ok (.sipush 144, 3) := by decide +kernel
theorem dX1_init_17 : decode cX1_init 17 = .ok (.newarray .int, 2) := by decide +kernel
theorem dX1_init_19 : decode cX1_init 19 = .ok (.putfield 15, 3) := by decide +kernel
theorem dX1_init_22 : decode cX1_init 22 = .ok (.aload_n 0, 1) := by decide +kernel
theorem dX1_init_23 : decode cX1_init 23 = .ok (.sipush 144, 3) := by decide +kernel
theorem dX1_init_26 : decode cX1_init 26 = .ok (.newarray .int, 2) := by decide +kernel
theorem dX1_init_28 : decode cX1_init 28 = .ok (.putfield 18, 3) := by decide +kernel
theorem dX1_init_31 : decode cX1_init 31 = .ok (.aload_n 0, 1) := by decide +kernel
theorem dX1_init_32 : decode cX1_init 32 = .ok (.sipush 144, 3) := by decide +kernel
theorem dX1_init_35 : decode cX1_init 35 = .ok (.newarray .int, 2) := by decide +kernel
theorem dX1_init_37 : decode cX1_init 37 = .ok (.putfield 21, 3) := by decide +kernel
theorem dX1_init_40 : decode cX1_init 40 = .ok (.aload_n 0, 1) := by decide +kernel
theorem dX1_init_41 : decode cX1_init 41 = .ok (.sipush 144, 3) := by decide +kernel
theorem dX1_init_44 : decode cX1_init 44 = .ok (.newarray .boolean, 2) := by decide +kernel
theorem dX1_init_46 : decode cX1_init 46 = .ok (.putfield 24, 3) := by decide +kernel
theorem dX1_init_49 : decode cX1_init 49 = .ok (.aload_n 0, 1) := by decide +kernel
theorem dX1_init_50 : decode cX1_init 50 = .ok (.new 28, 3) := by decide +kernel
theorem dX1_init_53 : decode cX1_init 53 = .ok (.dup, 1) := by decide +kernel
theorem dX1_init_54 : decode cX1_init 54 = .ok (.invokespecial 30, 3) := by decide +kernel
theorem dX1_init_57 : decode cX1_init 57 = .ok (.putfield 31, 3) := by decide +kernel
theorem dX1_init_60 : decode cX1_init 60 = .ok (.aload_n 0, 1) := by decide +kernel
theorem dX1_init_61 : decode cX1_init 61 = .ok (.aload_n 1, 1) := by decide +kernel
theorem dX1_init_62 : decode cX1_init 62 = .ok (.putfield 35, 3) := by decide +kernel
theorem dX1_init_65 : decode cX1_init 65 = .ok (.aload_n 0, 1) := by decide +kernel
theorem dX1_init_66 : decode cX1_init 66 = .ok (.aload_n 2, 1) := by decide +kernel
theorem dX1_init_67 : decode cX1_init 67 = .ok (.putfield 39, 3) := by decide +kernel
theorem dX1_init_70 : decode cX1_init 70 = .ok (.return_, 1) := by decide +kernel
theorem dX2_init_0 : decode cX2_init 0 = .ok (.aload_n 0, 1) := by decide +kernel
theorem dX2_init_1 : decode cX2_init 1 = .ok (.invokespecial 3, 3) := by decide +kernel
theorem dX2_init_4 : decode cX2_init 4 = .ok (.return_, 1) := by decide +kernel
theorem dX3_init_0 : decode cX3_init 0 = .ok (.aload_n 0, 1) := by decide +kernel
theorem dX3_init_1 : decode cX3_init 1 = .ok (.invokespecial 3, 3) := by decide +kernel
theorem dX3_init_4 : decode cX3_init 4 = .ok (.aload_n 0, 1) := by decide +kernel
theorem dX3_init_5 : decode cX3_init 5 = .ok (.new 9, 3) := by decide +kernel
theorem dX3_init_8 : decode cX3_init 8 = .ok (.dup, 1) := by decide +kernel
theorem dX3_init_9 : decode cX3_init 9 = .ok (.invokespecial 11, 3) := by decide +kernel
theorem dX3_init_12 : decode cX3_init 12 = .ok (.putfield 12, 3) := by decide +kernel
theorem dX3_init_15 : decode cX3_init 15 = .ok (.aload_n 0, 1) := by decide +kernel
theorem dX3_init_16 : decode cX3_init 16 = .ok (.new 9, 3) := by decide +kernel
theorem dX3_init_19 : decode cX3_init 19 = .ok (.dup, 1) := by decide +kernel
theorem dX3_init_20 : decode cX3_init 20 = .ok (.invokespecial 11, 3) := by decide +kernel
theorem dX3_init_23 : decode cX3_init 23 = .ok (.putfield 18, 3) := by decide +kernel
theorem dX3_init_26 : decode cX3_init 26 = .ok (.aload_n 0, 1) := by decide +kernel
theorem dX3_init_27 : decode cX3_init 27 = .ok (.sipush 576, 3) := by decide +kernel
theorem dX3_init_30 : decode cX3_init 30 = .ok (.newarray .int, 2) := by decide +kernel
theorem dX3_init_32 : decode cX3_init 32 = .ok (.putfield 21, 3) := by decide +kernel
theorem dX3_init_35 : decode cX3_init 35 = .ok (.aload_n 0, 1) := by decide +kernel
theorem dX3_init_36 : decode cX3_init 36 = .ok (.sipush 576, 3) := by decide +kernel
theorem dX3_init_39 : decode cX3_init 39 = .ok (.newarray .int, 2) := by decide +kernel
theorem dX3_init_41 : decode cX3_init 41 = .ok (.putfield 25, 3) := by decide +kernel
theorem dX3_init_44 : decode cX3_init 44 = .ok (.return_, 1) := by decide +kernel
theorem dX4_init_0 : decode cX4_init 0 = .ok (.aload_n 0, 1) := by decide +kernel
theorem dX4_init_1 : decode cX4_init 1 = .ok (.invokespecial 3, 3) := by decide +kernel
theorem dX4_init_4 : decode cX4_init 4 = .ok (.aload_n 0, 1) := by decide +kernel
theorem dX4_init_5 : decode cX4_init 5 = .ok (.sipush 160, 3) := by decide +kernel
theorem dX4_init_8 : decode cX4_init 8 = .ok (.newarray .char, 2) := by decide +kernel
theorem dX4_init_10 : decode cX4_init 10 = .ok (.putfield 9, 3) := by decide +kernel
theorem dX4_init_13 : decode cX4_init 13 = .ok (.return_, 1) := by decide +kernel
theorem dX5_init_0 : decode cX5_init 0 = .ok (.aload_n 0, 1) := by decide +kernel
theorem dX5_init_1 : decode cX5_init 1 = .ok (.invokespecial 3, 3) := by decide +kernel
theorem dX5_init_4 : decode cX5_init 4 = .ok (.aload_n 0, 1) := by decide +kernel
theorem dX5_init_5 : decode cX5_init 5 = .ok (.sipush 144, 3) := by decide +kernel
theorem dX5_init_8 : decode cX5_init 8 = .ok (.newarray .int, 2) := by decide +kernel
theorem dX5_init_10 : decode cX5_init 10 = .ok (.putfield 9, 3) := by decide +kernel
theorem dX5_init_13 : decode cX5_init 13 = .ok (.return_, 1) := by decide +kernel
theorem dX6_init_0 : decode cX6_init 0 = .ok (.aload_n 0, 1) := by decide +kernel
theorem dX6_init_1 : decode cX6_init 1 = .ok (.invokespecial 3, 3) := by decide +kernel
theorem dX6_init_4 : decode cX6_init 4 = .ok (.aload_n 0, 1) := by decide +kernel
theorem dX6_init_5 : decode cX6_init 5 = .ok (.sipush 144, 3) := by decide +kernel
theorem dX6_init_8 : decode cX6_init 8 = .ok (.newarray .boolean, 2) := by decide +kernel
theorem dX6_init_10 : decode cX6_init 10 = .ok (.putfield 9, 3) := by decide +kernel
theorem dX6_init_13 : decode cX6_init 13 = .ok (.aload_n 0, 1) := by decide +kernel
theorem dX6_init_14 : decode cX6_init 14 = .ok (.aload_n 1, 1) := by decide +kernel
theorem dX6_init_15 : decode cX6_init 15 = .ok (.putfield 15, 3) := by decide +kernel
theorem dX6_init_18 : decode cX6_init 18 = .ok (.return_, 1) := by decide +kernel
theorem dX7_init_0 : decode cX7_init 0 = .ok (.aload_n 0, 1) := by decide +kernel
theorem dX7_init_1 : decode cX7_init 1 = .ok (.invokespecial 3, 3) := by decide +kernel
theorem dX7_init_4 : decode cX7_init 4 = .ok (.aload_n 0, 1) := by decide +kernel
theorem dX7_init_5 : decode cX7_init 5 = .ok (.bipush 6, 2) := by decide +kernel
theorem dX7_init_7 : decode cX7_init 7 = .ok (.newarray .int, 2) := by decide +kernel
theorem dX7_init_9 : decode cX7_init 9 = .ok (.putfield 9, 3) := by decide +kernel
theorem dX7_init_12 : decode cX7_init 12 = .ok (.aload_n 0, 1) := by decide +kernel
theorem dX7_init_13 : decode cX7_init 13 = .ok (.sipush 144, 3) := by decide +kernel
theorem dX7_init_16 : decode cX7_init 16 = .ok (.newarray .int, 2) := by decide +kernel
theorem dX7_init_18 : decode cX7_init 18 = .ok (.putfield 15, 3) := by decide +kernel
theorem dX7_init_21 : decode cX7_init 21 = .ok (.aload_n 0, 1) := by decide +kernel
theorem dX7_init_22 : decode cX7_init 22 = .ok (.new 18, 3) := by decide +kernel
theorem dX7_init_25 : decode cX7_init 25 = .ok (.dup, 1) := by decide +kernel
theorem dX7_init_26 : decode cX7_init 26 = .ok (.invokespecial 20, 3) := by decide +kernel
theorem dX7_init_29 : decode cX7_init 29 = .ok (.putfield 21, 3) := by decide +kernel
theorem dX7_init_32 : decode cX7_init 32 = .ok (.aload_n 0, 1) := by decide +kernel
theorem dX7_init_33 : decode cX7_init 33 = .ok (.aload_n 1, 1) := by decide +kernel
theorem dX7_init_34 : decode cX7_init 34 = .ok (.putfield 25, 3) := by decide +kernel
theorem dX7_init_37 : decode cX7_init 37 = .ok (.aload_n 0, 1) := by decide +kernel
theorem dX7_init_38 : decode cX7_init 38 = .ok (.aload_n 2, 1) := by decide +kernel
theorem dX7_init_39 : decode cX7_init 39 = .ok (.putfield 29, 3) := by decide +kernel
theorem dX7_init_42 : decode cX7_init 42 = .ok (.return_, 1) := by decide +kernel
theorem dX8_init_0 : decode cX8_init 0 = .ok (.aload_n 0, 1) := by decide +kernel
theorem dX8_init_1 : decode cX8_init 1 = .ok (.invokespecial 3, 3) := by decide +kernel
theorem dX8_init_4 : decode cX8_init 4 = .ok (.aload_n 0, 1) := by decide +kernel
theorem dX8_init_5 : decode cX8_init 5 = .ok (.new 9, 3) := by decide +kernel
theorem dX8_init_8 : decode cX8_init 8 = .ok (.dup, 1) := by decide +kernel
theorem dX8_init_9 : decode cX8_init 9 = .ok (.invokespecial 11, 3) := by decide +kernel
theorem dX8_init_12 : decode cX8_init 12 = .ok (.putfield 12, 3) := by decide +kernel
theorem dX8_init_15 : decode cX8_init 15 = .ok (.aload_n 0, 1) := by decide +kernel
theorem dX8_init_16 : decode cX8_init 16 = .ok (.sipush 144, 3) := by decide +kernel
theorem dX8_init_19 : decode cX8_init 19 = .ok (.newarray .int, 2) := by decide +kernel
theorem dX8_init_21 : decode cX8_init 21 = .ok (.putfield 16, 3) := by decide +kernel
theorem dX8_init_24 : decode cX8_init 24 = .ok (.aload_n 0, 1) := by decide +kernel
theorem dX8_init_25 : decode cX8_init 25 = .ok (.new 20, 3) := by decide +kernel
theorem dX8_init_28 : decode cX8_init 28 = .ok (.dup, 1) := by decide +kernel
theorem dX8_init_29 : decode cX8_init 29 = .ok (.aload_n 0, 1) := by decide +kernel
theorem dX8_init_30 : decode cX8_init 30 = .ok (.getfield 12, 3) := by decide +kernel
theorem dX8_init_33 : decode cX8_init 33 = .ok (.aload_n 0, 1) := by decide +kernel
theorem dX8_init_34 : decode cX8_init 34 = .ok (.getfield 16, 3) := by decide +kernel
theorem dX8_init_37 : decode cX8_init 37 = .ok (.invokespecial 22, 3) := by decide +kernel
theorem dX8_init_40 : decode cX8_init 40 = .ok (.putfield 25, 3) := by decide +kernel
theorem dX8_init_43 : decode cX8_init 43 = .ok (.aload_n 0, 1) := by decide +kernel
theorem dX8_init_44 : decode cX8_init 44 = .ok (.new 29, 3) := by decide +kernel
theorem dX8_init_47 : decode cX8_init 47 = .ok (.dup, 1) := by decide +kernel
theorem dX8_init_48 : decode cX8_init 48 = .ok (.invokespecial 31, 3) := by decide +kernel
theorem dX8_init_51 : decode cX8_init 51 = .ok (.putfield 32, 3) := by decide +kernel
theorem dX8_init_54 : decode cX8_init 54 = .ok (.aload_n 0, 1) := by decide +kernel
theorem dX8_init_55 : decode cX8_init 55 = .ok (.new 36, 3) := by decide +kernel
theorem dX8_init_58 : decode cX8_init 58 = .ok (.dup, 1) := by decide +kernel
theorem dX8_init_59 : decode cX8_init 59 = .ok (.aload_n 0, 1) := by decide +kernel
theorem dX8_init_60 : decode cX8_init 60 = .ok (.getfield 12, 3) := by decide +kernel
theorem dX8_init_63 : decode cX8_init 63 = .ok (.invokespecial 38, 3) := by decide +kernel
theorem dX8_init_66 : decode cX8_init 66 = .ok (.putfield 41, 3) := by decide +kernel
theorem dX8_init_69 : decode cX8_init 69 = .ok (.aload_n 0, 1) := by decide +kernel
theorem dX8_init_70 : decode cX8_init 70 = .ok (.new 45, 3) := by decide +kernel
theorem dX8_init_73 : decode cX8_init 73 = .ok (.dup, 1) := by decide +kernel
theorem dX8_init_74 : decode cX8_init 74 = .ok (.invokespecial 47, 3) := by decide +kernel
theorem dX8_init_77 : decode cX8_init 77 = .ok (.putfield 48, 3) := by decide +kernel
theorem dX8_init_80 : decode cX8_init 80 = .ok (.aload_n 0, 1) := by decide +kernel
theorem dX8_init_81 : decode cX8_init 81 = .ok (.new 52, 3) := by decide +kernel
theorem dX8_init_84 : decode cX8_init 84 = .ok (.dup, 1) := by decide +kernel
theorem dX8_init_85 : decode cX8_init 85 = .ok (.aload_n 0, 1) := by decide +kernel
theorem dX8_init_86 : decode cX8_init 86 = .ok (.getfield 12, 3) := by decide +kernel
theorem dX8_init_89 : decode cX8_init 89 = .ok (.aload_n 0, 1) := by decide +kernel
theorem dX8_init_90 : decode cX8_init 90 = .ok (.getfield 16, 3) := by decide +kernel
theorem dX8_init_93 : decode cX8_init 93 = .ok (.invokespecial 54, 3) := by decide +kernel
theorem dX8_init_96 : decode cX8_init 96 = .ok (.putfield 55, 3) := by decide +kernel
theorem dX8_init_99 : decode cX8_init 99 = .ok (.aload_n 0, 1) := by decide +kernel
theorem dX8_init_100 : decode cX8_init 100 = .ok (.new 52, 3) := by decide +kernel
theorem dX8_init_103 : decode cX8_init 103 = .ok (.dup, 1) := by decide +kernel
theorem dX8_init_104 : decode cX8_init 104 = .ok (.aload_n 0, 1) := by decide +kernel
theorem dX8_init_105 : decode cX8_init 105 = .ok (.getfield 12, 3) := by decide +kernel
theorem dX8_init_108 : decode cX8_init 108 = .ok (.aload_n 0, 1) := by decide +kernel
theorem dX8_init_109 : decode cX8_init 109 = .ok (.getfield 16, 3) := by decide +kernel
theorem dX8_init_112 : decode cX8_init 112 = .ok (.invokespecial 54, 3) := by decide +kernel
theorem dX8_init_115 : decode cX8_init 115 = .ok (.putfield 59, 3) := by decide +kernel
theorem dX8_init_118 : decode cX8_init 118 = .ok (.aload_n 0, 1) := by decide +kernel
theorem dX8_init_119 : decode cX8_init 119 = .ok (.bipush 6, 2) := by decide +kernel
theorem dX8_init_121 : decode cX8_init 121 = .ok (.iconst 5, 1) := by decide +kernel
theorem dX8_init_122 : decode cX8_init 122 = .ok (.invokevirtual 62, 3) := by decide +kernel
theorem dX8_init_125 : decode cX8_init 125 = .ok (.return_, 1) := by decide +kernel
theorem dL_cell_0 : decode cL_cell 0 = .ok (.iload_n 1, 1) := by decide +kernel
theorem dL_cell_1 : decode cL_cell 1 = .ok (.aload_n 0, 1) := by decide +kernel
theorem dL_cell_2 : decode cL_cell 2 = .ok (.arraylength, 1) := by decide +kernel
theorem dL_cell_3 : decode cL_cell 3 = .ok (.if_icmp .ge 9, 3) := by decide +kernel
theorem dL_cell_6 : decode cL_cell 6 = .ok (.aload_n 0, 1) := by decide +kernel
theorem dL_cell_7 : decode cL_cell 7 = .ok (.iload_n 1, 1) := by decide +kernel
theorem dL_cell_8 : decode cL_cell 8 = .ok (.iaload, 1) := by decide +kernel
theorem dL_cell_9 : decode cL_cell 9 = .ok (.goto 11, 3) := by decide +kernel
theorem dL_cell_12 : decode cL_cell 12 = .ok (.ldc 7, 2) := by decide +kernel
theorem dL_cell_14 : decode cL_cell 14 = .ok (.iload_n 1, 1) := by decide +kernel
theorem dL_cell_15 : decode cL_cell 15 = .ok (.imul, 1) := by decide +kernel
theorem dL_cell_16 : decode cL_cell 16 = .ok (.sipush 173, 3) := by decide +kernel
theorem dL_cell_19 : decode cL_cell 19 = .ok (.iadd, 1) := by decide +kernel
theorem dL_cell_20 : decode cL_cell 20 = .ok (.ireturn, 1) := by decide +kernel
theorem dL_print_0 : decode cL_print 0 = .ok (.lconst 0, 1) := by decide +kernel
theorem dL_print_1 : decode cL_print 1 = .ok (.lstore_n 1, 1) := by decide +kernel
theorem dL_print_2 : decode cL_print 2 = .ok (.iconst 0, 1) := by decide +kernel
theorem dL_print_3 : decode cL_print 3 = .ok (.istore_n 3, 1) := by decide +kernel
theorem dL_print_4 : decode cL_print 4 = .ok (.iload_n 3, 1) := by decide +kernel
theorem dL_print_5 : decode cL_print 5 = .ok (.aload_n 0, 1) := by decide +kernel
theorem dL_print_6 : decode cL_print 6 = .ok (.iconst 0, 1) := by decide +kernel
theorem dL_print_7 : decode cL_print 7 = .ok (.invokevirtual 9, 3) := by decide +kernel
theorem dL_print_10 : decode cL_print 10 = .ok (.aload_n 0, 1) := by decide +kernel
theorem dL_print_11 : decode cL_print 11 = .ok (.iconst 1, 1) := by decide +kernel
theorem dL_print_12 : decode cL_print 12 = .ok (.invokevirtual 9, 3) := by decide +kernel
theorem dL_print_15 : decode cL_print 15 = .ok (.imul, 1) := by decide +kernel
theorem dL_print_16 : decode cL_print 16 = .ok (.if_icmp .ge 28, 3) := by decide +kernel
theorem dL_print_19 : decode cL_print 19 = .ok (.ldc2_w 55, 3) := by decide +kernel
theorem dL_print_22 : decode cL_print 22 = .ok (.lload_n 1, 1) := by decide +kernel
theorem dL_print_23 : decode cL_print 23 = .ok (.lmul, 1) := by decide +kernel
theorem dL_print_24 : decode cL_print 24 = .ok (.ldc2_w 57, 3) := by decide +kernel
theorem dL_print_27 : decode cL_print 27 = .ok (.aload_n 0, 1) := by decide +kernel
theorem dL_print_28 : decode cL_print 28 = .ok (.iload_n 3, 1) := by decide +kernel
theorem dL_print_29 : decode cL_print 29 = .ok (.invokevirtual 25, 3) := by decide +kernel
theorem dL_print_32 : decode cL_print 32 = .ok (.i2l, 1) := by decide +kernel
theorem dL_print_33 : decode cL_print 33 = .ok (.lmul, 1) := by decide +kernel
theorem dL_print_34 : decode cL_print 34 = .ok (.ladd, 1) := by decide +kernel
theorem dL_print_35 : decode cL_print 35 = .ok (.lconst 1, 1) := by decide +kernel
theorem dL_print_36 : decode cL_print 36 = .ok (.ladd, 1) := by decide +kernel
theorem dL_print_37 : decode cL_print 37 = .ok (.lstore_n 1, 1) := by decide +kernel
theorem dL_print_38 : decode cL_print 38 = .ok (.iinc 3 1, 3) := by decide +kernel
theorem dL_print_41 : decode cL_print 41 = .ok (.goto (-37), 3) := by decide +kernel
theorem dL_print_44 : decode cL_print 44 = .ok (.lload_n 1, 1) := by decide +kernel
theorem dL_print_45 : decode cL_print 45 = .ok (.lreturn, 1) := by decide +kernel
theorem dL_walks_0 : decode cL_walks 0 = .ok (.aload_n 0, 1) := by decide +kernel
theorem dL_walks_1 : decode cL_walks 1 = .ok (.invokevirtual 59, 3) := by decide +kernel
theorem dL_walks_4 : decode cL_walks 4 = .ok (.pop, 1) := by decide +kernel
theorem dL_walks_5 : decode cL_walks 5 = .ok (.iload_n 1, 1) := by decide +kernel
theorem dL_walks_6 : decode cL_walks 6 = .ok (.istore 5, 2) := by decide +kernel
theorem dL_walks_8 : decode cL_walks 8 = .ok (.iload_n 2, 1) := by decide +kernel
theorem dL_walks_9 : decode cL_walks 9 = .ok (.istore 6, 2) := by decide +kernel
theorem dL_walks_11 : decode cL_walks 11 = .ok (.iconst 0, 1) := by decide +kernel
theorem dL_walks_12 : decode cL_walks 12 = .ok (.istore 7, 2) := by decide +kernel
theorem dL_walks_14 : decode cL_walks 14 = .ok (.iconst 0, 1) := by decide +kernel
theorem dL_walks_15 : decode cL_walks 15 = .ok (.istore 8, 2) := by decide +kernel
theorem dL_walks_17 : decode cL_walks 17 = .ok (.iconst 1, 1) := by decide +kernel
theorem dL_walks_18 : decode cL_walks 18 = .ok (.istore 9, 2) := by decide +kernel
theorem dL_walks_20 : decode cL_walks 20 = .ok (.iconst 1, 1) := by decide +kernel
theorem dL_walks_21 : decode cL_walks 21 = .ok (.istore 10, 2) := by decide +kernel
theorem dL_walks_23 : decode cL_walks 23 = .ok (.bipush 32, 2) := by decide +kernel
theorem dL_walks_25 : decode cL_walks 25 = .ok (.newarray .int, 2) := by decide +kernel
theorem dL_walks_27 : decode cL_walks 27 = .ok (.astore 11, 2) := by decide +kernel
theorem dL_walks_29 : decode cL_walks 29 = .ok (.aload 11, 2) := by decide +kernel
theorem dL_walks_31 : decode cL_walks 31 = .ok (.iconst 0, 1) := by decide +kernel
theorem dL_walks_32 : decode cL_walks 32 = .ok (.iload_n 1, 1) := by decide +kernel
theorem dL_walks_33 : decode cL_walks 33 = .ok (.iastore, 1) := by decide +kernel
theorem dL_walks_34 : decode cL_walks 34 = .ok (.aload_n 0, 1) := by decide +kernel
theorem dL_walks_35 : decode cL_walks 35 = .ok (.iconst 0, 1) := by decide +kernel
theorem dL_walks_36 : decode cL_walks 36 = .ok (.invokevirtual 9, 3) := by decide +kernel
theorem dL_walks_39 : decode cL_walks 39 = .ok (.istore 12, 2) := by decide +kernel
theorem dL_walks_41 : decode cL_walks 41 = .ok (.iconst 0, 1) := by decide +kernel
theorem dL_walks_42 : decode cL_walks 42 = .ok (.istore 13, 2) := by decide +kernel
theorem dL_walks_44 : decode cL_walks 44 = .ok (.iconst 0, 1) := by decide +kernel
theorem dL_walks_45 : decode cL_walks 45 = .ok (.istore 14, 2) := by decide +kernel
theorem dL_walks_47 : decode cL_walks 47 = .ok (.iload 14, 2) := by decide +kernel
theorem dL_walks_49 : decode cL_walks 49 = .ok (.bipush 20, 2) := by decide +kernel
theorem dL_walks_51 : decode cL_walks 51 = .ok (.if_icmp .ge 348, 3) := by decide +kernel
theorem dL_walks_54 : decode cL_walks 54 = .ok (.iload 14, 2) := by decide +kernel
theorem dL_walks_56 : decode cL_walks 56 = .ok (.bipush 10, 2) := by decide +kernel
theorem dL_walks_58 : decode cL_walks 58 = .ok (.if_icmp .ge 7, 3) := by decide +kernel
theorem dL_walks_61 : decode cL_walks 61 = .ok (.iload_n 3, 1) := by decide +kernel
theorem dL_walks_62 : decode cL_walks 62 = .ok (.goto 5, 3) := by decide +kernel
theorem dL_walks_65 : decode cL_walks 65 = .ok (.iload 4, 2) := by decide +kernel
theorem dL_walks_67 : decode cL_walks 67 = .ok (.iconst 3, 1) := by decide +kernel
theorem dL_walks_68 : decode cL_walks 68 = .ok (.iload 14, 2) := by decide +kernel
theorem dL_walks_70 : decode cL_walks 70 = .ok (.bipush 10, 2) := by decide +kernel
theorem dL_walks_72 : decode cL_walks 72 = .ok (.irem, 1) := by decide +kernel
theorem dL_walks_73 : decode cL_walks 73 = .ok (.imul, 1) := by decide +kernel
theorem dL_walks_74 : decode cL_walks 74 = .ok (.ishr, 1) := by decide +kernel
theorem dL_walks_75 : decode cL_walks 75 = .ok (.bipush 7, 2) := by decide +kernel
theorem dL_walks_77 : decode cL_walks 77 = .ok (.iand, 1) := by decide +kernel
theorem dL_walks_78 : decode cL_walks 78 = .ok (.istore 15, 2) := by decide +kernel
theorem dL_walks_80 : decode cL_walks 80 = .ok (.aload_n 0, 1) := by decide +kernel
theorem dL_walks_81 : decode cL_walks 81 = .ok (.iload 15, 2) := by decide +kernel
theorem dL_walks_83 : decode cL_walks 83 = .ok (.iconst 4, 1) := by decide +kernel
theorem dL_walks_84 : decode cL_walks 84 = .ok (.if_icmp .ge 8, 3) := by decide +kernel
theorem dL_walks_87 : decode cL_walks 87 = .ok (.bipush 102, 2) := by decide +kernel
theorem dL_walks_89 : decode cL_walks 89 = .ok (.goto 17, 3) := by decide +kernel
theorem dL_walks_92 : decode cL_walks 92 = .ok (.iload 15, 2) := by decide +kernel
theorem dL_walks_94 : decode cL_walks 94 = .ok (.bipush 6, 2) := by decide +kernel
theorem dL_walks_96 : decode cL_walks 96 = .ok (.if_icmp .ge 8, 3) := by decide +kernel
theorem dL_walks_99 : decode cL_walks 99 = .ok (.bipush 114, 2) := by decide +kernel
theorem dL_walks_101 : decode cL_walks 101 = .ok (.goto 5, 3) := by decide +kernel
theorem dL_walks_104 : decode cL_walks 104 = .ok (.bipush 108, 2) := by decide +kernel
theorem dL_walks_106 : decode cL_walks 106 = .ok (.invokevirtual 63, 3) := by decide +kernel
theorem dL_walks_109 : decode cL_walks 109 = .ok (.istore 13, 2) := by decide +kernel
theorem dL_walks_111 : decode cL_walks 111 = .ok (.iload 10, 2) := by decide +kernel
theorem dL_walks_113 : decode cL_walks 113 = .ok (.ifCond .eq 233, 3) := by decide +kernel
theorem dL_walks_116 : decode cL_walks 116 = .ok (.iload 15, 2) := by decide +kernel
theorem dL_walks_118 : decode cL_walks 118 = .ok (.iconst 4, 1) := by decide +kernel
theorem dL_walks_119 : decode cL_walks 119 = .ok (.if_icmp .ge 227, 3) := by decide +kernel
theorem dL_walks_122 : decode cL_walks 122 = .ok (.aload_n 0, 1) := by decide +kernel
theorem dL_walks_123 : decode cL_walks 123 = .ok (.iload 5, 2) := by decide +kernel
theorem dL_walks_125 : decode cL_walks 125 = .ok (.iload 6, 2) := by decide +kernel
theorem dL_walks_127 : decode cL_walks 127 = .ok (.invokevirtual 15, 3) := by decide +kernel
theorem dL_walks_130 : decode cL_walks 130 = .ok (.istore 16, 2) := by decide +kernel
theorem dL_walks_132 : decode cL_walks 132 = .ok (.iload 16, 2) := by decide +kernel
theorem dL_walks_134 : decode cL_walks 134 = .ok (.ifCond .lt 7, 3) := by decide +kernel
theorem dL_walks_137 : decode cL_walks 137 = .ok (.iconst 1, 1) := by decide +kernel
theorem dL_walks_138 : decode cL_walks 138 = .ok (.goto 4, 3) := by decide +kernel
theorem dL_walks_141 : decode cL_walks 141 = .ok (.iconst 0, 1) := by decide +kernel
theorem dL_walks_142 : decode cL_walks 142 = .ok (.istore 10, 2) := by decide +kernel
theorem dL_walks_144 : decode cL_walks 144 = .ok (.iload 5, 2) := by decide +kernel
theorem dL_walks_146 : decode cL_walks 146 = .ok (.iload 12, 2) := by decide +kernel
theorem dL_walks_148 : decode cL_walks 148 = .ok (.irem, 1) := by decide +kernel
theorem dL_walks_149 : decode cL_walks 149 = .ok (.istore 17, 2) := by decide +kernel
theorem dL_walks_151 : decode cL_walks 151 = .ok (.iload 6, 2) := by decide +kernel
theorem dL_walks_153 : decode cL_walks 153 = .ok (.ifCond .ne 12, 3) := by decide +kernel
theorem dL_walks_156 : decode cL_walks 156 = .ok (.iload 17, 2) := by decide +kernel
theorem dL_walks_158 : decode cL_walks 158 = .ok (.iload 12, 2) := by decide +kernel
theorem dL_walks_160 : decode cL_walks 160 = .ok (.iconst 1, 1) := by decide +kernel
theorem dL_walks_161 : decode cL_walks 161 = .ok (.isub, 1) := by decide +kernel
theorem dL_walks_162 : decode cL_walks 162 = .ok (.if_icmp .eq 14, 3) := by decide +kernel
theorem dL_walks_165 : decode cL_walks 165 = .ok (.iload 6, 2) := by decide +kernel
theorem dL_walks_167 : decode cL_walks 167 = .ok (.iconst 2, 1) := by decide +kernel
theorem dL_walks_168 : decode cL_walks 168 = .ok (.if_icmp .ne 12, 3) := by decide +kernel
theorem dL_walks_171 : decode cL_walks 171 = .ok (.iload 17, 2) := by decide +kernel
theorem dL_walks_173 : decode cL_walks 173 = .ok (.ifCond .ne 7, 3) := by decide +kernel
theorem dL_walks_176 : decode cL_walks 176 = .ok (.iconst 1, 1) := by decide +kernel
theorem dL_walks_177 : decode cL_walks 177 = .ok (.goto 4, 3) := by decide +kernel
theorem dL_walks_180 : decode cL_walks 180 = .ok (.iconst 0, 1) := by decide +kernel
theorem dL_walks_181 : decode cL_walks 181 = .ok (.istore 18, 2) := by decide +kernel
theorem dL_walks_183 : decode cL_walks 183 = .ok (.iload 6, 2) := by decide +kernel
theorem dL_walks_185 : decode cL_walks 185 = .ok (.iconst 1, 1) := by decide +kernel
theorem dL_walks_186 : decode cL_walks 186 = .ok (.if_icmp .ne 18, 3) := by decide +kernel
theorem dL_walks_189 : decode cL_walks 189 = .ok (.iload 5, 2) := by decide +kernel
theorem dL_walks_191 : decode cL_walks 191 = .ok (.iload 12, 2) := by decide +kernel
theorem dL_walks_193 : decode cL_walks 193 = .ok (.idiv, 1) := by decide +kernel
theorem dL_walks_194 : decode cL_walks 194 = .ok (.aload_n 0, 1) := by decide +kernel
theorem dL_walks_195 : decode cL_walks 195 = .ok (.iconst 1, 1) := by decide +kernel
theorem dL_walks_196 : decode cL_walks 196 = .ok (.invokevirtual 9, 3) := by decide +kernel
theorem dL_walks_199 : decode cL_walks 199 = .ok (.iconst 1, 1) := by decide +kernel
theorem dL_walks_200 : decode cL_walks 200 = .ok (.isub, 1) := by decide +kernel
theorem dL_walks_201 : decode cL_walks 201 = .ok (.if_icmp .eq 16, 3) := by decide +kernel
theorem dL_walks_204 : decode cL_walks 204 = .ok (.iload 6, 2) := by decide +kernel
theorem dL_walks_206 : decode cL_walks 206 = .ok (.iconst 3, 1) := by decide +kernel
theorem dL_walks_207 : decode cL_walks 207 = .ok (.if_icmp .ne 14, 3) := by decide +kernel
theorem dL_walks_210 : decode cL_walks 210 = .ok (.iload 5, 2) := by decide +kernel
theorem dL_walks_212 : decode cL_walks 212 = .ok (.iload 12, 2) := by decide +kernel
theorem dL_walks_214 : decode cL_walks 214 = .ok (.if_icmp .ge 7, 3) := by decide +kernel
theorem dL_walks_217 : decode cL_walks 217 = .ok (.iconst 1, 1) := by decide +kernel
theorem dL_walks_218 : decode cL_walks 218 = .ok (.goto 4, 3) := by decide +kernel
theorem dL_walks_221 : decode cL_walks 221 = .ok (.iconst 0, 1) := by decide +kernel
theorem dL_walks_222 : decode cL_walks 222 = .ok (.istore 19, 2) := by decide +kernel
theorem dL_walks_224 : decode cL_walks 224 = .ok (.iload 18, 2) := by decide +kernel
theorem dL_walks_226 : decode cL_walks 226 = .ok (.ifCond .eq 12, 3) := by decide +kernel
theorem dL_walks_229 : decode cL_walks 229 = .ok (.aload_n 0, 1) := by decide +kernel
theorem dL_walks_230 : decode cL_walks 230 = .ok (.iconst 2, 1) := by decide +kernel
theorem dL_walks_231 : decode cL_walks 231 = .ok (.invokevirtual 9, 3) := by decide +kernel
theorem dL_walks_234 : decode cL_walks 234 = .ok (.iconst 2, 1) := by decide +kernel
theorem dL_walks_235 : decode cL_walks 235 = .ok (.if_icmp .eq 17, 3) := by decide +kernel
theorem dL_walks_238 : decode cL_walks 238 = .ok (.iload 19, 2) := by decide +kernel
theorem dL_walks_240 : decode cL_walks 240 = .ok (.ifCond .eq 16, 3) := by decide +kernel
theorem dL_walks_243 : decode cL_walks 243 = .ok (.aload_n 0, 1) := by decide +kernel
theorem dL_walks_244 : decode cL_walks 244 = .ok (.iconst 4, 1) := by decide +kernel
theorem dL_walks_245 : decode cL_walks 245 = .ok (.invokevirtual 9, 3) := by decide +kernel
theorem dL_walks_248 : decode cL_walks 248 = .ok (.iconst 2, 1) := by decide +kernel
theorem dL_walks_249 : decode cL_walks 249 = .ok (.if_icmp .ne 7, 3) := by decide +kernel
theorem dL_walks_252 : decode cL_walks 252 = .ok (.iconst 1, 1) := by decide +kernel
theorem dL_walks_253 : decode cL_walks 253 = .ok (.goto 4, 3) := by decide +kernel
theorem dL_walks_256 : decode cL_walks 256 = .ok (.iconst 0, 1) := by decide +kernel
theorem dL_walks_257 : decode cL_walks 257 = .ok (.istore 20, 2) := by decide +kernel
theorem dL_walks_259 : decode cL_walks 259 = .ok (.iload 10, 2) := by decide +kernel
theorem dL_walks_261 : decode cL_walks 261 = .ok (.ifCond .eq 82, 3) := by decide +kernel
theorem dL_walks_264 : decode cL_walks 264 = .ok (.iload 20, 2) := by decide +kernel
theorem dL_walks_266 : decode cL_walks 266 = .ok (.ifCond .eq 10, 3) := by decide +kernel
theorem dL_walks_269 : decode cL_walks 269 = .ok (.iconst 1, 1) := by decide +kernel
theorem dL_walks_270 : decode cL_walks 270 = .ok (.iload 7, 2) := by decide +kernel
theorem dL_walks_272 : decode cL_walks 272 = .ok (.isub, 1) := by decide +kernel
theorem dL_walks_273 : decode cL_walks 273 = .ok (.goto 5, 3) := by decide +kernel
theorem dL_walks_276 : decode cL_walks 276 = .ok (.iload 7, 2) := by decide +kernel
theorem dL_walks_278 : decode cL_walks 278 = .ok (.istore 7, 2) := by decide +kernel
theorem dL_walks_280 : decode cL_walks 280 = .ok (.iinc 8 1, 3) := by decide +kernel
theorem dL_walks_283 : decode cL_walks 283 = .ok (.iload 16, 2) := by decide +kernel
theorem dL_walks_285 : decode cL_walks 285 = .ok (.istore 5, 2) := by decide +kernel
theorem dL_walks_287 : decode cL_walks 287 = .ok (.iconst 0, 1) := by decide +kernel
theorem dL_walks_288 : decode cL_walks 288 = .ok (.istore 21, 2) := by decide +kernel
theorem dL_walks_290 : decode cL_walks 290 = .ok (.iconst 0, 1) := by decide +kernel
theorem dL_walks_291 : decode cL_walks 291 = .ok (.istore 22, 2) := by decide +kernel
theorem dL_walks_293 : decode cL_walks 293 = .ok (.iload 22, 2) := by decide +kernel
theorem dL_walks_295 : decode cL_walks 295 = .ok (.iload 9, 2) := by decide +kernel
theorem dL_walks_297 : decode cL_walks 297 = .ok (.if_icmp .ge 31, 3) := by decide +kernel
theorem dL_walks_300 : decode cL_walks 300 = .ok (.iload 21, 2) := by decide +kernel
theorem dL_walks_302 : decode cL_walks 302 = .ok (.ifCond .ne 13, 3) := by decide +kernel
theorem dL_walks_305 : decode cL_walks 305 = .ok (.aload 11, 2) := by decide +kernel
theorem dL_walks_307 : decode cL_walks 307 = .ok (.iload 22, 2) := by decide +kernel
theorem dL_walks_309 : decode cL_walks 309 = .ok (.iaload, 1) := by decide +kernel
theorem dL_walks_310 : decode cL_walks 310 = .ok (.iload 5, 2) := by decide +kernel
theorem dL_walks_312 : decode cL_walks 312 = .ok (.if_icmp .ne 7, 3) := by decide +kernel
theorem dL_walks_315 : decode cL_walks 315 = .ok (.iconst 1, 1) := by decide +kernel
theorem dL_walks_316 : decode cL_walks 316 = .ok (.goto 4, 3) := by decide +kernel
theorem dL_walks_319 : decode cL_walks 319 = .ok (.iconst 0, 1) := by decide +kernel
theorem dL_walks_320 : decode cL_walks 320 = .ok (.istore 21, 2) := by decide +kernel
theorem dL_walks_322 : decode cL_walks 322 = .ok (.iinc 22 1, 3) := by decide +kernel
theorem dL_walks_325 : decode cL_walks 325 = .ok (.goto (-32), 3) := by decide +kernel
theorem dL_walks_328 : decode cL_walks 328 = .ok (.iload 21, 2) := by decide +kernel
theorem dL_walks_330 : decode cL_walks 330 = .ok (.ifCond .ne 13, 3) := by decide +kernel
theorem dL_walks_333 : decode cL_walks 333 = .ok (.aload 11, 2) := by decide +kernel
theorem dL_walks_335 : decode cL_walks 335 = .ok (.iload 9, 2) := by decide +kernel
theorem dL_walks_337 : decode cL_walks 337 = .ok (.iload 5, 2) := by decide +kernel
theorem dL_walks_339 : decode cL_walks 339 = .ok (.iastore, 1) := by decide +kernel
theorem dL_walks_340 : decode cL_walks 340 = .ok (.iinc 9 1, 3) := by decide +kernel
theorem dL_walks_343 : decode cL_walks 343 = .ok (.goto 50, 3) := by decide +kernel
theorem dL_walks_346 : decode cL_walks 346 = .ok (.iload 10, 2) := by decide +kernel
theorem dL_walks_348 : decode cL_walks 348 = .ok (.ifCond .eq 45, 3) := by decide +kernel
theorem dL_walks_351 : decode cL_walks 351 = .ok (.iload 15, 2) := by decide +kernel
theorem dL_walks_353 : decode cL_walks 353 = .ok (.bipush 6, 2) := by decide +kernel
theorem dL_walks_355 : decode cL_walks 355 = .ok (.if_icmp .ge 7, 3) := by decide +kernel
theorem dL_walks_358 : decode cL_walks 358 = .ok (.iconst 1, 1) := by decide +kernel
theorem dL_walks_359 : decode cL_walks 359 = .ok (.goto 4, 3) := by decide +kernel
theorem dL_walks_362 : decode cL_walks 362 = .ok (.iconst 0, 1) := by decide +kernel
theorem dL_walks_363 : decode cL_walks 363 = .ok (.iload 7, 2) := by decide +kernel
theorem dL_walks_365 : decode cL_walks 365 = .ok (.ifCond .ne 7, 3) := by decide +kernel
theorem dL_walks_368 : decode cL_walks 368 = .ok (.iconst 1, 1) := by decide +kernel
theorem dL_walks_369 : decode cL_walks 369 = .ok (.goto 4, 3) := by decide +kernel
theorem dL_walks_372 : decode cL_walks 372 = .ok (.iconst 0, 1) := by decide +kernel
theorem dL_walks_373 : decode cL_walks 373 = .ok (.if_icmp .ne 12, 3) := by decide +kernel
theorem dL_walks_376 : decode cL_walks 376 = .ok (.iload 6, 2) := by decide +kernel
theorem dL_walks_378 : decode cL_walks 378 = .ok (.iconst 1, 1) := by decide +kernel
theorem dL_walks_379 : decode cL_walks 379 = .ok (.iadd, 1) := by decide +kernel
theorem dL_walks_380 : decode cL_walks 380 = .ok (.iconst 4, 1) := by decide +kernel
theorem dL_walks_381 : decode cL_walks 381 = .ok (.irem, 1) := by decide +kernel
theorem dL_walks_382 : decode cL_walks 382 = .ok (.goto 9, 3) := by decide +kernel
theorem dL_walks_385 : decode cL_walks 385 = .ok (.iload 6, 2) := by decide +kernel
theorem dL_walks_387 : decode cL_walks 387 = .ok (.iconst 3, 1) := by decide +kernel
theorem dL_walks_388 : decode cL_walks 388 = .ok (.iadd, 1) := by decide +kernel
theorem dL_walks_389 : decode cL_walks 389 = .ok (.iconst 4, 1) := by decide +kernel
theorem dL_walks_390 : decode cL_walks 390 = .ok (.irem, 1) := by decide +kernel
theorem dL_walks_391 : decode cL_walks 391 = .ok (.istore 6, 2) := by decide +kernel
theorem dL_walks_393 : decode cL_walks 393 = .ok (.iinc 14 1, 3) := by decide +kernel
theorem dL_walks_396 : decode cL_walks 396 = .ok (.goto (-349), 3) := by decide +kernel
theorem dL_walks_399 : decode cL_walks 399 = .ok (.aload_n 0, 1) := by decide +kernel
theorem dL_walks_400 : decode cL_walks 400 = .ok (.iload_n 1, 1) := by decide +kernel
theorem dL_walks_401 : decode cL_walks 401 = .ok (.iload_n 2, 1) := by decide +kernel
theorem dL_walks_402 : decode cL_walks 402 = .ok (.iconst 0, 1) := by decide +kernel
theorem dL_walks_403 : decode cL_walks 403 = .ok (.invokevirtual 67, 3) := by decide +kernel
theorem dL_walks_406 : decode cL_walks 406 = .ok (.iload 5, 2) := by decide +kernel
theorem dL_walks_408 : decode cL_walks 408 = .ok (.if_icmp .ne 55, 3) := by decide +kernel
theorem dL_walks_411 : decode cL_walks 411 = .ok (.aload_n 0, 1) := by decide +kernel
theorem dL_walks_412 : decode cL_walks 412 = .ok (.iload_n 1, 1) := by decide +kernel
theorem dL_walks_413 : decode cL_walks 413 = .ok (.iload_n 2, 1) := by decide +kernel
theorem dL_walks_414 : decode cL_walks 414 = .ok (.iconst 1, 1) := by decide +kernel
theorem dL_walks_415 : decode cL_walks 415 = .ok (.invokevirtual 67, 3) := by decide +kernel
theorem dL_walks_418 : decode cL_walks 418 = .ok (.iload 6, 2) := by decide +kernel
theorem dL_walks_420 : decode cL_walks 420 = .ok (.if_icmp .ne 43, 3) := by decide +kernel
theorem dL_walks_423 : decode cL_walks 423 = .ok (.aload_n 0, 1) := by decide +kernel
theorem dL_walks_424 : decode cL_walks 424 = .ok (.iload_n 1, 1) := by decide +kernel
theorem dL_walks_425 : decode cL_walks 425 = .ok (.iload_n 2, 1) := by decide +kernel
theorem dL_walks_426 : decode cL_walks 426 = .ok (.iconst 2, 1) := by decide +kernel
theorem dL_walks_427 : decode cL_walks 427 = .ok (.invokevirtual 67, 3) := by decide +kernel
theorem dL_walks_430 : decode cL_walks 430 = .ok (.iload 7, 2) := by decide +kernel
theorem dL_walks_432 : decode cL_walks 432 = .ok (.if_icmp .ne 31, 3) := by decide +kernel
theorem dL_walks_435 : decode cL_walks 435 = .ok (.aload_n 0, 1) := by decide +kernel
theorem dL_walks_436 : decode cL_walks 436 = .ok (.iload_n 1, 1) := by decide +kernel
theorem dL_walks_437 : decode cL_walks 437 = .ok (.iload_n 2, 1) := by decide +kernel
theorem dL_walks_438 : decode cL_walks 438 = .ok (.iconst 3, 1) := by decide +kernel
theorem dL_walks_439 : decode cL_walks 439 = .ok (.invokevirtual 67, 3) := by decide +kernel
theorem dL_walks_442 : decode cL_walks 442 = .ok (.iload 8, 2) := by decide +kernel
theorem dL_walks_444 : decode cL_walks 444 = .ok (.if_icmp .ne 19, 3) := by decide +kernel
theorem dL_walks_447 : decode cL_walks 447 = .ok (.aload_n 0, 1) := by decide +kernel
theorem dL_walks_448 : decode cL_walks 448 = .ok (.iload_n 1, 1) := by decide +kernel
theorem dL_walks_449 : decode cL_walks 449 = .ok (.iload_n 2, 1) := by decide +kernel
theorem dL_walks_450 : decode cL_walks 450 = .ok (.iconst 4, 1) := by decide +kernel
theorem dL_walks_451 : decode cL_walks 451 = .ok (.invokevirtual 67, 3) := by decide +kernel
theorem dL_walks_454 : decode cL_walks 454 = .ok (.iload 9, 2) := by decide +kernel
theorem dL_walks_456 : decode cL_walks 456 = .ok (.if_icmp .ne 7, 3) := by decide +kernel
theorem dL_walks_459 : decode cL_walks 459 = .ok (.iconst 1, 1) := by decide +kernel
theorem dL_walks_460 : decode cL_walks 460 = .ok (.goto 4, 3) := by decide +kernel
theorem dL_walks_463 : decode cL_walks 463 = .ok (.iconst 0, 1) := by decide +kernel
theorem dL_walks_464 : decode cL_walks 464 = .ok (.istore 14, 2) := by decide +kernel
theorem dL_walks_466 : decode cL_walks 466 = .ok (.aload_n 0, 1) := by decide +kernel
theorem dL_walks_467 : decode cL_walks 467 = .ok (.bipush 120, 2) := by decide +kernel
theorem dL_walks_469 : decode cL_walks 469 = .ok (.invokevirtual 63, 3) := by decide +kernel
theorem dL_walks_472 : decode cL_walks 472 = .ok (.pop, 1) := by decide +kernel
theorem dL_walks_473 : decode cL_walks 473 = .ok (.iload 14, 2) := by decide +kernel
theorem dL_walks_475 : decode cL_walks 475 = .ok (.ifCond .eq 46, 3) := by decide +kernel
theorem dL_walks_478 : decode cL_walks 478 = .ok (.aload_n 0, 1) := by decide +kernel
theorem dL_walks_479 : decode cL_walks 479 = .ok (.iload_n 1, 1) := by decide +kernel
theorem dL_walks_480 : decode cL_walks 480 = .ok (.iload_n 2, 1) := by decide +kernel
theorem dL_walks_481 : decode cL_walks 481 = .ok (.iconst 0, 1) := by decide +kernel
theorem dL_walks_482 : decode cL_walks 482 = .ok (.invokevirtual 67, 3) := by decide +kernel
theorem dL_walks_485 : decode cL_walks 485 = .ok (.bipush (-100), 2) := by decide +kernel
theorem dL_walks_487 : decode cL_walks 487 = .ok (.iload 13, 2) := by decide +kernel
theorem dL_walks_489 : decode cL_walks 489 = .ok (.isub, 1) := by decide +kernel
theorem dL_walks_490 : decode cL_walks 490 = .ok (.if_icmp .ne 31, 3) := by decide +kernel
theorem dL_walks_493 : decode cL_walks 493 = .ok (.aload_n 0, 1) := by decide +kernel
theorem dL_walks_494 : decode cL_walks 494 = .ok (.iload_n 1, 1) := by decide +kernel
theorem dL_walks_495 : decode cL_walks 495 = .ok (.iconst 4, 1) := by decide +kernel
theorem dL_walks_496 : decode cL_walks 496 = .ok (.iconst 0, 1) := by decide +kernel
theorem dL_walks_497 : decode cL_walks 497 = .ok (.invokevirtual 67, 3) := by decide +kernel
theorem dL_walks_500 : decode cL_walks 500 = .ok (.bipush (-2), 2) := by decide +kernel
theorem dL_walks_502 : decode cL_walks 502 = .ok (.if_icmp .ne 19, 3) := by decide +kernel
theorem dL_walks_505 : decode cL_walks 505 = .ok (.aload_n 0, 1) := by decide +kernel
theorem dL_walks_506 : decode cL_walks 506 = .ok (.iload_n 1, 1) := by decide +kernel
theorem dL_walks_507 : decode cL_walks 507 = .ok (.iconst 0, 1) := by decide +kernel
theorem dL_walks_508 : decode cL_walks 508 = .ok (.iconst 5, 1) := by decide +kernel
theorem dL_walks_509 : decode cL_walks 509 = .ok (.invokevirtual 67, 3) := by decide +kernel
theorem dL_walks_512 : decode cL_walks 512 = .ok (.bipush (-2), 2) := by decide +kernel
theorem dL_walks_514 : decode cL_walks 514 = .ok (.if_icmp .ne 7, 3) := by decide +kernel
theorem dL_walks_517 : decode cL_walks 517 = .ok (.iconst 1, 1) := by decide +kernel
theorem dL_walks_518 : decode cL_walks 518 = .ok (.goto 4, 3) := by decide +kernel
theorem dL_walks_521 : decode cL_walks 521 = .ok (.iconst 0, 1) := by decide +kernel
theorem dL_walks_522 : decode cL_walks 522 = .ok (.ireturn, 1) := by decide +kernel
theorem dL_edits_0 : decode cL_edits 0 = .ok (.aload_n 0, 1) := by decide +kernel
theorem dL_edits_1 : decode cL_edits 1 = .ok (.iconst 0, 1) := by decide +kernel
theorem dL_edits_2 : decode cL_edits 2 = .ok (.invokevirtual 9, 3) := by decide +kernel
theorem dL_edits_5 : decode cL_edits 5 = .ok (.aload_n 0, 1) := by decide +kernel
theorem dL_edits_6 : decode cL_edits 6 = .ok (.iconst 1, 1) := by decide +kernel
theorem dL_edits_7 : decode cL_edits 7 = .ok (.invokevirtual 9, 3) := by decide +kernel
theorem dL_edits_10 : decode cL_edits 10 = .ok (.imul, 1) := by decide +kernel
theorem dL_edits_11 : decode cL_edits 11 = .ok (.istore 4, 2) := by decide +kernel
theorem dL_edits_13 : decode cL_edits 13 = .ok (.iload_n 1, 1) := by decide +kernel
theorem dL_edits_14 : decode cL_edits 14 = .ok (.iconst 3, 1) := by decide +kernel
theorem dL_edits_15 : decode cL_edits 15 = .ok (.ishr, 1) := by decide +kernel
theorem dL_edits_16 : decode cL_edits 16 = .ok (.iload 4, 2) := by decide +kernel
theorem dL_edits_18 : decode cL_edits 18 = .ok (.invokestatic 44, 3) := by decide +kernel
theorem dL_edits_21 : decode cL_edits 21 = .ok (.istore 5, 2) := by decide +kernel
theorem dL_edits_23 : decode cL_edits 23 = .ok (.iload_n 1, 1) := by decide +kernel
theorem dL_edits_24 : decode cL_edits 24 = .ok (.bipush 11, 2) := by decide +kernel
theorem dL_edits_26 : decode cL_edits 26 = .ok (.ishr, 1) := by decide +kernel
theorem dL_edits_27 : decode cL_edits 27 = .ok (.iconst 3, 1) := by decide +kernel
theorem dL_edits_28 : decode cL_edits 28 = .ok (.invokestatic 44, 3) := by decide +kernel
theorem dL_edits_31 : decode cL_edits 31 = .ok (.istore 6, 2) := by decide +kernel
theorem dL_edits_33 : decode cL_edits 33 = .ok (.aload_n 0, 1) := by decide +kernel
theorem dL_edits_34 : decode cL_edits 34 = .ok (.invokestatic 70, 3) := by decide +kernel
theorem dL_edits_37 : decode cL_edits 37 = .ok (.lstore 7, 2) := by decide +kernel
theorem dL_edits_39 : decode cL_edits 39 = .ok (.iload_n 1, 1) := by decide +kernel
theorem dL_edits_40 : decode cL_edits 40 = .ok (.iconst 5, 1) := by decide +kernel
theorem dL_edits_41 : decode cL_edits 41 = .ok (.invokestatic 44, 3) := by decide +kernel
theorem dL_edits_44 : decode cL_edits 44 = .ok (.istore 9, 2) := by decide +kernel
theorem dL_edits_46 : decode cL_edits 46 = .ok (.iload 9, 2) := by decide +kernel
theorem dL_edits_48 : decode cL_edits 48 = .ok (.iconst 3, 1) := by decide +kernel
theorem dL_edits_49 : decode cL_edits 49 = .ok (.if_icmp .ge 171, 3) := by decide +kernel
theorem dL_edits_52 : decode cL_edits 52 = .ok (.aload_n 0, 1) := by decide +kernel
theorem dL_edits_53 : decode cL_edits 53 = .ok (.iload 5, 2) := by decide +kernel
theorem dL_edits_55 : decode cL_edits 55 = .ok (.iload 6, 2) := by decide +kernel
theorem dL_edits_57 : decode cL_edits 57 = .ok (.invokevirtual 74, 3) := by decide +kernel
theorem dL_edits_60 : decode cL_edits 60 = .ok (.istore 10, 2) := by decide +kernel
theorem dL_edits_62 : decode cL_edits 62 = .ok (.bipush 64, 2) := by decide +kernel
theorem dL_edits_64 : decode cL_edits 64 = .ok (.newarray .int, 2) := by decide +kernel
theorem dL_edits_66 : decode cL_edits 66 = .ok (.astore 11, 2) := by decide +kernel
theorem dL_edits_68 : decode cL_edits 68 = .ok (.iconst 0, 1) := by decide +kernel
theorem dL_edits_69 : decode cL_edits 69 = .ok (.istore 12, 2) := by decide +kernel
theorem dL_edits_71 : decode cL_edits 71 = .ok (.iload 12, 2) := by decide +kernel
theorem dL_edits_73 : decode cL_edits 73 = .ok (.iload 4, 2) := by decide +kernel
theorem dL_edits_75 : decode cL_edits 75 = .ok (.if_icmp .ge 27, 3) := by decide +kernel
theorem dL_edits_78 : decode cL_edits 78 = .ok (.iload 12, 2) := by decide +kernel
theorem dL_edits_80 : decode cL_edits 80 = .ok (.bipush 64, 2) := by decide +kernel
theorem dL_edits_82 : decode cL_edits 82 = .ok (.if_icmp .ge 20, 3) := by decide +kernel
theorem dL_edits_85 : decode cL_edits 85 = .ok (.aload 11, 2) := by decide +kernel
theorem dL_edits_87 : decode cL_edits 87 = .ok (.iload 12, 2) := by decide +kernel
theorem dL_edits_89 : decode cL_edits 89 = .ok (.aload_n 0, 1) := by decide +kernel
theorem dL_edits_90 : decode cL_edits 90 = .ok (.iload 12, 2) := by decide +kernel
theorem dL_edits_92 : decode cL_edits 92 = .ok (.invokevirtual 22, 3) := by decide +kernel
theorem dL_edits_95 : decode cL_edits 95 = .ok (.iastore, 1) := by decide +kernel
theorem dL_edits_96 : decode cL_edits 96 = .ok (.iinc 12 1, 3) := by decide +kernel
theorem dL_edits_99 : decode cL_edits 99 = .ok (.goto (-28), 3) := by decide +kernel
theorem dL_edits_102 : decode cL_edits 102 = .ok (.aload_n 0, 1) := by decide +kernel
theorem dL_edits_103 : decode cL_edits 103 = .ok (.iload 5, 2) := by decide +kernel
theorem dL_edits_105 : decode cL_edits 105 = .ok (.iload 6, 2) := by decide +kernel
theorem dL_edits_107 : decode cL_edits 107 = .ok (.invokevirtual 77, 3) := by decide +kernel
theorem dL_edits_110 : decode cL_edits 110 = .ok (.istore 12, 2) := by decide +kernel
theorem dL_edits_112 : decode cL_edits 112 = .ok (.iconst 0, 1) := by decide +kernel
theorem dL_edits_113 : decode cL_edits 113 = .ok (.istore 13, 2) := by decide +kernel
theorem dL_edits_115 : decode cL_edits 115 = .ok (.iconst 0, 1) := by decide +kernel
theorem dL_edits_116 : decode cL_edits 116 = .ok (.istore 14, 2) := by decide +kernel
theorem dL_edits_118 : decode cL_edits 118 = .ok (.iload 14, 2) := by decide +kernel
theorem dL_edits_120 : decode cL_edits 120 = .ok (.iload 4, 2) := by decide +kernel
theorem dL_edits_122 : decode cL_edits 122 = .ok (.if_icmp .ge 47, 3) := by decide +kernel
theorem dL_edits_125 : decode cL_edits 125 = .ok (.iload 14, 2) := by decide +kernel
theorem dL_edits_127 : decode cL_edits 127 = .ok (.bipush 64, 2) := by decide +kernel
theorem dL_edits_129 : decode cL_edits 129 = .ok (.if_icmp .ge 40, 3) := by decide +kernel
theorem dL_edits_132 : decode cL_edits 132 = .ok (.iload 13, 2) := by decide +kernel
theorem dL_edits_134 : decode cL_edits 134 = .ok (.iload 14, 2) := by decide +kernel
theorem dL_edits_136 : decode cL_edits 136 = .ok (.iload 5, 2) := by decide +kernel
theorem dL_edits_138 : decode cL_edits 138 = .ok (.if_icmp .eq 21, 3) := by decide +kernel
theorem dL_edits_141 : decode cL_edits 141 = .ok (.aload_n 0, 1) := by decide +kernel
theorem dL_edits_142 : decode cL_edits 142 = .ok (.iload 14, 2) := by decide +kernel
theorem dL_edits_144 : decode cL_edits 144 = .ok (.invokevirtual 22, 3) := by decide +kernel
theorem dL_edits_147 : decode cL_edits 147 = .ok (.aload 11, 2) := by decide +kernel
theorem dL_edits_149 : decode cL_edits 149 = .ok (.iload 14, 2) := by decide +kernel
theorem dL_edits_151 : decode cL_edits 151 = .ok (.iaload, 1) := by decide +kernel
theorem dL_edits_152 : decode cL_edits 152 = .ok (.if_icmp .eq 7, 3) := by decide +kernel
theorem dL_edits_155 : decode cL_edits 155 = .ok (.iconst 1, 1) := by decide +kernel
theorem dL_edits_156 : decode cL_edits 156 = .ok (.goto 4, 3) := by decide +kernel
theorem dL_edits_159 : decode cL_edits 159 = .ok (.iconst 0, 1) := by decide +kernel
theorem dL_edits_160 : decode cL_edits 160 = .ok (.iadd, 1) := by decide +kernel
theorem dL_edits_161 : decode cL_edits 161 = .ok (.istore 13, 2) := by decide +kernel
theorem dL_edits_163 : decode cL_edits 163 = .ok (.iinc 14 1, 3) := by decide +kernel
theorem dL_edits_166 : decode cL_edits 166 = .ok (.goto (-48), 3) := by decide +kernel
theorem dL_edits_169 : decode cL_edits 169 = .ok (.aload_n 0, 1) := by decide +kernel
theorem dL_edits_170 : decode cL_edits 170 = .ok (.bipush 6, 2) := by decide +kernel
theorem dL_edits_172 : decode cL_edits 172 = .ok (.invokevirtual 9, 3) := by decide +kernel
theorem dL_edits_175 : decode cL_edits 175 = .ok (.iload 10, 2) := by decide +kernel
theorem dL_edits_177 : decode cL_edits 177 = .ok (.if_icmp .ne 38, 3) := by decide +kernel
theorem dL_edits_180 : decode cL_edits 180 = .ok (.aload_n 0, 1) := by decide +kernel
theorem dL_edits_181 : decode cL_edits 181 = .ok (.iload 5, 2) := by decide +kernel
theorem dL_edits_183 : decode cL_edits 183 = .ok (.invokevirtual 25, 3) := by decide +kernel
theorem dL_edits_186 : decode cL_edits 186 = .ok (.iload 6, 2) := by decide +kernel
theorem dL_edits_188 : decode cL_edits 188 = .ok (.if_icmp .ne 27, 3) := by decide +kernel
theorem dL_edits_191 : decode cL_edits 191 = .ok (.iload 4, 2) := by decide +kernel
theorem dL_edits_193 : decode cL_edits 193 = .ok (.bipush 64, 2) := by decide +kernel
theorem dL_edits_195 : decode cL_edits 195 = .ok (.if_icmp .gt 13, 3) := by decide +kernel
theorem dL_edits_198 : decode cL_edits 198 = .ok (.iload 12, 2) := by decide +kernel
theorem dL_edits_200 : decode cL_edits 200 = .ok (.iload 13, 2) := by decide +kernel
theorem dL_edits_202 : decode cL_edits 202 = .ok (.if_icmp .eq 15, 3) := by decide +kernel
theorem dL_edits_205 : decode cL_edits 205 = .ok (.goto 10, 3) := by decide +kernel
theorem dL_edits_208 : decode cL_edits 208 = .ok (.iload 12, 2) := by decide +kernel
theorem dL_edits_210 : decode cL_edits 210 = .ok (.iload 13, 2) := by decide +kernel
theorem dL_edits_212 : decode cL_edits 212 = .ok (.if_icmp .ge 5, 3) := by decide +kernel
theorem dL_edits_215 : decode cL_edits 215 = .ok (.iconst (-1), 1) := by decide +kernel
theorem dL_edits_216 : decode cL_edits 216 = .ok (.ireturn, 1) := by decide +kernel
theorem dL_edits_217 : decode cL_edits 217 = .ok (.goto 265, 3) := by decide +kernel
theorem dL_edits_220 : decode cL_edits 220 = .ok (.iload 9, 2) := by decide +kernel
theorem dL_edits_222 : decode cL_edits 222 = .ok (.iconst 3, 1) := by decide +kernel
theorem dL_edits_223 : decode cL_edits 223 = .ok (.if_icmp .ne 65, 3) := by decide +kernel
theorem dL_edits_226 : decode cL_edits 226 = .ok (.aload_n 0, 1) := by decide +kernel
theorem dL_edits_227 : decode cL_edits 227 = .ok (.aload_n 0, 1) := by decide +kernel
theorem dL_edits_228 : decode cL_edits 228 = .ok (.iload 5, 2) := by decide +kernel
theorem dL_edits_230 : decode cL_edits 230 = .ok (.invokevirtual 22, 3) := by decide +kernel
theorem dL_edits_233 : decode cL_edits 233 = .ok (.iconst 1, 1) := by decide +kernel
theorem dL_edits_234 : decode cL_edits 234 = .ok (.invokevirtual 28, 3) := by decide +kernel
theorem dL_edits_237 : decode cL_edits 237 = .ok (.istore 10, 2) := by decide +kernel
theorem dL_edits_239 : decode cL_edits 239 = .ok (.aload_n 0, 1) := by decide +kernel
theorem dL_edits_240 : decode cL_edits 240 = .ok (.iload 5, 2) := by decide +kernel
theorem dL_edits_242 : decode cL_edits 242 = .ok (.iload 6, 2) := by decide +kernel
theorem dL_edits_244 : decode cL_edits 244 = .ok (.invokevirtual 80, 3) := by decide +kernel
theorem dL_edits_247 : decode cL_edits 247 = .ok (.istore 11, 2) := by decide +kernel
theorem dL_edits_249 : decode cL_edits 249 = .ok (.iload 11, 2) := by decide +kernel
theorem dL_edits_251 : decode cL_edits 251 = .ok (.iload 10, 2) := by decide +kernel
theorem dL_edits_253 : decode cL_edits 253 = .ok (.if_icmp .lt 30, 3) := by decide +kernel
theorem dL_edits_256 : decode cL_edits 256 = .ok (.aload_n 0, 1) := by decide +kernel
theorem dL_edits_257 : decode cL_edits 257 = .ok (.iload 5, 2) := by decide +kernel
theorem dL_edits_259 : decode cL_edits 259 = .ok (.invokevirtual 25, 3) := by decide +kernel
theorem dL_edits_262 : decode cL_edits 262 = .ok (.iload 6, 2) := by decide +kernel
theorem dL_edits_264 : decode cL_edits 264 = .ok (.if_icmp .ne 19, 3) := by decide +kernel
theorem dL_edits_267 : decode cL_edits 267 = .ok (.aload_n 0, 1) := by decide +kernel
theorem dL_edits_268 : decode cL_edits 268 = .ok (.aload_n 0, 1) := by decide +kernel
theorem dL_edits_269 : decode cL_edits 269 = .ok (.iload 5, 2) := by decide +kernel
theorem dL_edits_271 : decode cL_edits 271 = .ok (.invokevirtual 22, 3) := by decide +kernel
theorem dL_edits_274 : decode cL_edits 274 = .ok (.iconst 1, 1) := by decide +kernel
theorem dL_edits_275 : decode cL_edits 275 = .ok (.invokevirtual 28, 3) := by decide +kernel
theorem dL_edits_278 : decode cL_edits 278 = .ok (.iload 11, 2) := by decide +kernel
theorem dL_edits_280 : decode cL_edits 280 = .ok (.if_icmp .eq 5, 3) := by decide +kernel
theorem dL_edits_283 : decode cL_edits 283 = .ok (.iconst (-1), 1) := by decide +kernel
theorem dL_edits_284 : decode cL_edits 284 = .ok (.ireturn, 1) := by decide +kernel
theorem dL_edits_285 : decode cL_edits 285 = .ok (.goto 197, 3) := by decide +kernel
theorem dL_edits_288 : decode cL_edits 288 = .ok (.aload_n 0, 1) := by decide +kernel
theorem dL_edits_289 : decode cL_edits 289 = .ok (.invokevirtual 59, 3) := by decide +kernel
theorem dL_edits_292 : decode cL_edits 292 = .ok (.pop, 1) := by decide +kernel
theorem dL_edits_293 : decode cL_edits 293 = .ok (.iconst 0, 1) := by decide +kernel
theorem dL_edits_294 : decode cL_edits 294 = .ok (.istore 10, 2) := by decide +kernel
theorem dL_edits_296 : decode cL_edits 296 = .ok (.aload_n 0, 1) := by decide +kernel
theorem dL_edits_297 : decode cL_edits 297 = .ok (.iconst 0, 1) := by decide +kernel
theorem dL_edits_298 : decode cL_edits 298 = .ok (.invokevirtual 9, 3) := by decide +kernel
theorem dL_edits_301 : decode cL_edits 301 = .ok (.istore 11, 2) := by decide +kernel
theorem dL_edits_303 : decode cL_edits 303 = .ok (.iconst 0, 1) := by decide +kernel
theorem dL_edits_304 : decode cL_edits 304 = .ok (.istore 12, 2) := by decide +kernel
theorem dL_edits_306 : decode cL_edits 306 = .ok (.iconst 0, 1) := by decide +kernel
theorem dL_edits_307 : decode cL_edits 307 = .ok (.istore 13, 2) := by decide +kernel
theorem dL_edits_309 : decode cL_edits 309 = .ok (.iload 13, 2) := by decide +kernel
theorem dL_edits_311 : decode cL_edits 311 = .ok (.iload 4, 2) := by decide +kernel
theorem dL_edits_313 : decode cL_edits 313 = .ok (.if_icmp .ge 81, 3) := by decide +kernel
theorem dL_edits_316 : decode cL_edits 316 = .ok (.iload 13, 2) := by decide +kernel
theorem dL_edits_318 : decode cL_edits 318 = .ok (.ifCond .le 18, 3) := by decide +kernel
theorem dL_edits_321 : decode cL_edits 321 = .ok (.iload 13, 2) := by decide +kernel
theorem dL_edits_323 : decode cL_edits 323 = .ok (.iload 11, 2) := by decide +kernel
theorem dL_edits_325 : decode cL_edits 325 = .ok (.irem, 1) := by decide +kernel
theorem dL_edits_326 : decode cL_edits 326 = .ok (.ifCond .ne 10, 3) := by decide +kernel
theorem dL_edits_329 : decode cL_edits 329 = .ok (.aload_n 0, 1) := by decide +kernel
theorem dL_edits_330 : decode cL_edits 330 = .ok (.bipush 47, 2) := by decide +kernel
theorem dL_edits_332 : decode cL_edits 332 = .ok (.invokevirtual 63, 3) := by decide +kernel
theorem dL_edits_335 : decode cL_edits 335 = .ok (.pop, 1) := by decide +kernel
theorem dL_edits_336 : decode cL_edits 336 = .ok (.iload_n 2, 1) := by decide +kernel
theorem dL_edits_337 : decode cL_edits 337 = .ok (.iload 13, 2) := by decide +kernel
theorem dL_edits_339 : decode cL_edits 339 = .ok (.bipush 13, 2) := by decide +kernel
theorem dL_edits_341 : decode cL_edits 341 = .ok (.irem, 1) := by decide +kernel
theorem dL_edits_342 : decode cL_edits 342 = .ok (.iload 13, 2) := by decide +kernel
theorem dL_edits_344 : decode cL_edits 344 = .ok (.bipush 29, 2) := by decide +kernel
theorem dL_edits_346 : decode cL_edits 346 = .ok (.idiv, 1) := by decide +kernel
theorem dL_edits_347 : decode cL_edits 347 = .ok (.iadd, 1) := by decide +kernel
theorem dL_edits_348 : decode cL_edits 348 = .ok (.ishr, 1) := by decide +kernel
theorem dL_edits_349 : decode cL_edits 349 = .ok (.iconst 3, 1) := by decide +kernel
theorem dL_edits_350 : decode cL_edits 350 = .ok (.invokestatic 44, 3) := by decide +kernel
theorem dL_edits_353 : decode cL_edits 353 = .ok (.istore 14, 2) := by decide +kernel
theorem dL_edits_355 : decode cL_edits 355 = .ok (.iload 10, 2) := by decide +kernel
theorem dL_edits_357 : decode cL_edits 357 = .ok (.aload_n 0, 1) := by decide +kernel
theorem dL_edits_358 : decode cL_edits 358 = .ok (.iload 13, 2) := by decide +kernel
theorem dL_edits_360 : decode cL_edits 360 = .ok (.invokevirtual 25, 3) := by decide +kernel
theorem dL_edits_363 : decode cL_edits 363 = .ok (.iload 14, 2) := by decide +kernel
theorem dL_edits_365 : decode cL_edits 365 = .ok (.if_icmp .eq 7, 3) := by decide +kernel
theorem dL_edits_368 : decode cL_edits 368 = .ok (.iconst 1, 1) := by decide +kernel
theorem dL_edits_369 : decode cL_edits 369 = .ok (.goto 4, 3) := by decide +kernel
theorem dL_edits_372 : decode cL_edits 372 = .ok (.iconst 0, 1) := by decide +kernel
theorem dL_edits_373 : decode cL_edits 373 = .ok (.iadd, 1) := by decide +kernel
theorem dL_edits_374 : decode cL_edits 374 = .ok (.istore 10, 2) := by decide +kernel
theorem dL_edits_376 : decode cL_edits 376 = .ok (.aload_n 0, 1) := by decide +kernel
theorem dL_edits_377 : decode cL_edits 377 = .ok (.bipush 48, 2) := by decide +kernel
theorem dL_edits_379 : decode cL_edits 379 = .ok (.iload 14, 2) := by decide +kernel
theorem dL_edits_381 : decode cL_edits 381 = .ok (.iadd, 1) := by decide +kernel
theorem dL_edits_382 : decode cL_edits 382 = .ok (.i2c, 1) := by decide +kernel
theorem dL_edits_383 : decode cL_edits 383 = .ok (.invokevirtual 63, 3) := by decide +kernel
theorem dL_edits_386 : decode cL_edits 386 = .ok (.istore 12, 2) := by decide +kernel
theorem dL_edits_388 : decode cL_edits 388 = .ok (.iinc 13 1, 3) := by decide +kernel
theorem dL_edits_391 : decode cL_edits 391 = .ok (.goto (-82), 3) := by decide +kernel
theorem dL_edits_394 : decode cL_edits 394 = .ok (.aload_n 0, 1) := by decide +kernel
theorem dL_edits_395 : decode cL_edits 395 = .ok (.invokevirtual 83, 3) := by decide +kernel
theorem dL_edits_398 : decode cL_edits 398 = .ok (.iload 10, 2) := by decide +kernel
theorem dL_edits_400 : decode cL_edits 400 = .ok (.if_icmp .eq 5, 3) := by decide +kernel
theorem dL_edits_403 : decode cL_edits 403 = .ok (.iconst (-1), 1) := by decide +kernel
theorem dL_edits_404 : decode cL_edits 404 = .ok (.ireturn, 1) := by decide +kernel
theorem dL_edits_405 : decode cL_edits 405 = .ok (.aload_n 0, 1) := by decide +kernel
theorem dL_edits_406 : decode cL_edits 406 = .ok (.bipush 47, 2) := by decide +kernel
theorem dL_edits_408 : decode cL_edits 408 = .ok (.invokevirtual 63, 3) := by decide +kernel
theorem dL_edits_411 : decode cL_edits 411 = .ok (.pop, 1) := by decide +kernel
theorem dL_edits_412 : decode cL_edits 412 = .ok (.aload_n 0, 1) := by decide +kernel
theorem dL_edits_413 : decode cL_edits 413 = .ok (.invokevirtual 83, 3) := by decide +kernel
theorem dL_edits_416 : decode cL_edits 416 = .ok (.bipush (-100), 2) := by decide +kernel
theorem dL_edits_418 : decode cL_edits 418 = .ok (.iload 12, 2) := by decide +kernel
theorem dL_edits_420 : decode cL_edits 420 = .ok (.isub, 1) := by decide +kernel
theorem dL_edits_421 : decode cL_edits 421 = .ok (.if_icmp .ne 18, 3) := by decide +kernel
theorem dL_edits_424 : decode cL_edits 424 = .ok (.iload 12, 2) := by decide +kernel
theorem dL_edits_426 : decode cL_edits 426 = .ok (.iload 4, 2) := by decide +kernel
theorem dL_edits_428 : decode cL_edits 428 = .ok (.aload_n 0, 1) := by decide +kernel
theorem dL_edits_429 : decode cL_edits 429 = .ok (.iconst 1, 1) := by decide +kernel
theorem dL_edits_430 : decode cL_edits 430 = .ok (.invokevirtual 9, 3) := by decide +kernel
theorem dL_edits_433 : decode cL_edits 433 = .ok (.iadd, 1) := by decide +kernel
theorem dL_edits_434 : decode cL_edits 434 = .ok (.iconst 1, 1) := by decide +kernel
theorem dL_edits_435 : decode cL_edits 435 = .ok (.isub, 1) := by decide +kernel
theorem dL_edits_436 : decode cL_edits 436 = .ok (.if_icmp .eq 5, 3) := by decide +kernel
theorem dL_edits_439 : decode cL_edits 439 = .ok (.iconst (-1), 1) := by decide +kernel
theorem dL_edits_440 : decode cL_edits 440 = .ok (.ireturn, 1) := by decide +kernel
theorem dL_edits_441 : decode cL_edits 441 = .ok (.aload_n 0, 1) := by decide +kernel
theorem dL_edits_442 : decode cL_edits 442 = .ok (.invokevirtual 59, 3) := by decide +kernel
theorem dL_edits_445 : decode cL_edits 445 = .ok (.pop, 1) := by decide +kernel
theorem dL_edits_446 : decode cL_edits 446 = .ok (.aload_n 0, 1) := by decide +kernel
theorem dL_edits_447 : decode cL_edits 447 = .ok (.bipush 48, 2) := by decide +kernel
theorem dL_edits_449 : decode cL_edits 449 = .ok (.invokevirtual 63, 3) := by decide +kernel
theorem dL_edits_452 : decode cL_edits 452 = .ok (.pop, 1) := by decide +kernel
theorem dL_edits_453 : decode cL_edits 453 = .ok (.aload_n 0, 1) := by decide +kernel
theorem dL_edits_454 : decode cL_edits 454 = .ok (.invokevirtual 83, 3) := by decide +kernel
theorem dL_edits_457 : decode cL_edits 457 = .ok (.bipush (-101), 2) := by decide +kernel
theorem dL_edits_459 : decode cL_edits 459 = .ok (.if_icmp .eq 5, 3) := by decide +kernel
theorem dL_edits_462 : decode cL_edits 462 = .ok (.iconst (-1), 1) := by decide +kernel
theorem dL_edits_463 : decode cL_edits 463 = .ok (.ireturn, 1) := by decide +kernel
theorem dL_edits_464 : decode cL_edits 464 = .ok (.aload_n 0, 1) := by decide +kernel
theorem dL_edits_465 : decode cL_edits 465 = .ok (.bipush 54, 2) := by decide +kernel
theorem dL_edits_467 : decode cL_edits 467 = .ok (.invokevirtual 63, 3) := by decide +kernel
theorem dL_edits_470 : decode cL_edits 470 = .ok (.pop, 1) := by decide +kernel
theorem dL_edits_471 : decode cL_edits 471 = .ok (.aload_n 0, 1) := by decide +kernel
theorem dL_edits_472 : decode cL_edits 472 = .ok (.invokevirtual 83, 3) := by decide +kernel
theorem dL_edits_475 : decode cL_edits 475 = .ok (.bipush (-101), 2) := by decide +kernel
theorem dL_edits_477 : decode cL_edits 477 = .ok (.if_icmp .eq 5, 3) := by decide +kernel
theorem dL_edits_480 : decode cL_edits 480 = .ok (.iconst (-1), 1) := by decide +kernel
theorem dL_edits_481 : decode cL_edits 481 = .ok (.ireturn, 1) := by decide +kernel
theorem dL_edits_482 : decode cL_edits 482 = .ok (.aload_n 0, 1) := by decide +kernel
theorem dL_edits_483 : decode cL_edits 483 = .ok (.bipush 8, 2) := by decide +kernel
theorem dL_edits_485 : decode cL_edits 485 = .ok (.invokevirtual 9, 3) := by decide +kernel
theorem dL_edits_488 : decode cL_edits 488 = .ok (.iload_n 3, 1) := by decide +kernel
theorem dL_edits_489 : decode cL_edits 489 = .ok (.bipush 12, 2) := by decide +kernel
theorem dL_edits_491 : decode cL_edits 491 = .ok (.if_icmp .ge 9, 3) := by decide +kernel
theorem dL_edits_494 : decode cL_edits 494 = .ok (.iload_n 3, 1) := by decide +kernel
theorem dL_edits_495 : decode cL_edits 495 = .ok (.iconst 1, 1) := by decide +kernel
theorem dL_edits_496 : decode cL_edits 496 = .ok (.iadd, 1) := by decide +kernel
theorem dL_edits_497 : decode cL_edits 497 = .ok (.goto 5, 3) := by decide +kernel
theorem dL_edits_500 : decode cL_edits 500 = .ok (.bipush 12, 2) := by decide +kernel
theorem dL_edits_502 : decode cL_edits 502 = .ok (.if_icmp .eq 5, 3) := by decide +kernel
theorem dL_edits_505 : decode cL_edits 505 = .ok (.iconst (-1), 1) := by decide +kernel
theorem dL_edits_506 : decode cL_edits 506 = .ok (.ireturn, 1) := by decide +kernel
theorem dL_edits_507 : decode cL_edits 507 = .ok (.iload_n 2, 1) := by decide +kernel
theorem dL_edits_508 : decode cL_edits 508 = .ok (.bipush 25, 2) := by decide +kernel
theorem dL_edits_510 : decode cL_edits 510 = .ok (.ishr, 1) := by decide +kernel
theorem dL_edits_511 : decode cL_edits 511 = .ok (.iconst 3, 1) := by decide +kernel
theorem dL_edits_512 : decode cL_edits 512 = .ok (.iand, 1) := by decide +kernel
theorem dL_edits_513 : decode cL_edits 513 = .ok (.ifCond .ne 43, 3) := by decide +kernel
theorem dL_edits_516 : decode cL_edits 516 = .ok (.aload_n 0, 1) := by decide +kernel
theorem dL_edits_517 : decode cL_edits 517 = .ok (.invokevirtual 86, 3) := by decide +kernel
theorem dL_edits_520 : decode cL_edits 520 = .ok (.istore 10, 2) := by decide +kernel
theorem dL_edits_522 : decode cL_edits 522 = .ok (.iload 10, 2) := by decide +kernel
theorem dL_edits_524 : decode cL_edits 524 = .ok (.iload_n 3, 1) := by decide +kernel
theorem dL_edits_525 : decode cL_edits 525 = .ok (.bipush 12, 2) := by decide +kernel
theorem dL_edits_527 : decode cL_edits 527 = .ok (.if_icmp .ge 7, 3) := by decide +kernel
theorem dL_edits_530 : decode cL_edits 530 = .ok (.iload_n 3, 1) := by decide +kernel
theorem dL_edits_531 : decode cL_edits 531 = .ok (.goto 5, 3) := by decide +kernel
theorem dL_edits_534 : decode cL_edits 534 = .ok (.bipush 11, 2) := by decide +kernel
theorem dL_edits_536 : decode cL_edits 536 = .ok (.if_icmp .ne 18, 3) := by decide +kernel
theorem dL_edits_539 : decode cL_edits 539 = .ok (.aload_n 0, 1) := by decide +kernel
theorem dL_edits_540 : decode cL_edits 540 = .ok (.invokestatic 70, 3) := by decide +kernel
theorem dL_edits_543 : decode cL_edits 543 = .ok (.lload 7, 2) := by decide +kernel
theorem dL_edits_545 : decode cL_edits 545 = .ok (.lcmp, 1) := by decide +kernel
theorem dL_edits_546 : decode cL_edits 546 = .ok (.ifCond .ne 8, 3) := by decide +kernel
theorem dL_edits_549 : decode cL_edits 549 = .ok (.iload 10, 2) := by decide +kernel
theorem dL_edits_551 : decode cL_edits 551 = .ok (.goto 4, 3) := by decide +kernel
theorem dL_edits_554 : decode cL_edits 554 = .ok (.iconst (-1), 1) := by decide +kernel
theorem dL_edits_555 : decode cL_edits 555 = .ok (.ireturn, 1) := by decide +kernel
theorem dL_edits_556 : decode cL_edits 556 = .ok (.iload_n 3, 1) := by decide +kernel
theorem dL_edits_557 : decode cL_edits 557 = .ok (.bipush 12, 2) := by decide +kernel
theorem dL_edits_559 : decode cL_edits 559 = .ok (.if_icmp .ge 9, 3) := by decide +kernel
theorem dL_edits_562 : decode cL_edits 562 = .ok (.iload_n 3, 1) := by decide +kernel
theorem dL_edits_563 : decode cL_edits 563 = .ok (.iconst 1, 1) := by decide +kernel
theorem dL_edits_564 : decode cL_edits 564 = .ok (.iadd, 1) := by decide +kernel
theorem dL_edits_565 : decode cL_edits 565 = .ok (.goto 5, 3) := by decide +kernel
theorem dL_edits_568 : decode cL_edits 568 = .ok (.bipush 12, 2) := by decide +kernel
theorem dL_edits_570 : decode cL_edits 570 = .ok (.ireturn, 1) := by decide +kernel
theorem dL_law_0 : decode cL_law 0 = .ok (.new 10, 3) := by decide +kernel
theorem dL_law_3 : decode cL_law 3 = .ok (.dup, 1) := by decide +kernel
theorem dL_law_4 : decode cL_law 4 = .ok (.invokespecial 99, 3) := by decide +kernel
theorem dL_law_7 : decode cL_law 7 = .ok (.astore_n 1, 1) := by decide +kernel
theorem dL_law_8 : decode cL_law 8 = .ok (.bipush 8, 2) := by decide +kernel
theorem dL_law_10 : decode cL_law 10 = .ok (.newarray .int, 2) := by decide +kernel
theorem dL_law_12 : decode cL_law 12 = .ok (.astore_n 2, 1) := by decide +kernel
theorem dL_law_13 : decode cL_law 13 = .ok (.aload_n 0, 1) := by decide +kernel
theorem dL_law_14 : decode cL_law 14 = .ok (.iconst 0, 1) := by decide +kernel
theorem dL_law_15 : decode cL_law 15 = .ok (.invokestatic 100, 3) := by decide +kernel
theorem dL_law_18 : decode cL_law 18 = .ok (.istore_n 3, 1) := by decide +kernel
theorem dL_law_19 : decode cL_law 19 = .ok (.iconst 3, 1) := by decide +kernel
theorem dL_law_20 : decode cL_law 20 = .ok (.iload_n 3, 1) := by decide +kernel
theorem dL_law_21 : decode cL_law 21 = .ok (.bipush 6, 2) := by decide +kernel
theorem dL_law_23 : decode cL_law 23 = .ok (.invokestatic 44, 3) := by decide +kernel
theorem dL_law_26 : decode cL_law 26 = .ok (.iadd, 1) := by decide +kernel
theorem dL_law_27 : decode cL_law 27 = .ok (.istore 4, 2) := by decide +kernel
theorem dL_law_29 : decode cL_law 29 = .ok (.iconst 3, 1) := by decide +kernel
theorem dL_law_30 : decode cL_law 30 = .ok (.iload_n 3, 1) := by decide +kernel
theorem dL_law_31 : decode cL_law 31 = .ok (.iconst 4, 1) := by decide +kernel
theorem dL_law_32 : decode cL_law 32 = .ok (.ishr, 1) := by decide +kernel
theorem dL_law_33 : decode cL_law 33 = .ok (.bipush 6, 2) := by decide +kernel
theorem dL_law_35 : decode cL_law 35 = .ok (.invokestatic 44, 3) := by decide +kernel
theorem dL_law_38 : decode cL_law 38 = .ok (.iadd, 1) := by decide +kernel
theorem dL_law_39 : decode cL_law 39 = .ok (.istore 5, 2) := by decide +kernel
theorem dL_law_41 : decode cL_law 41 = .ok (.aload_n 1, 1) := by decide +kernel
theorem dL_law_42 : decode cL_law 42 = .ok (.iconst 0, 1) := by decide +kernel
theorem dL_law_43 : decode cL_law 43 = .ok (.invokevirtual 9, 3) := by decide +kernel
theorem dL_law_46 : decode cL_law 46 = .ok (.bipush 6, 2) := by decide +kernel
theorem dL_law_48 : decode cL_law 48 = .ok (.if_icmp .ne 47, 3) := by decide +kernel
theorem dL_law_51 : decode cL_law 51 = .ok (.aload_n 1, 1) := by decide +kernel
theorem dL_law_52 : decode cL_law 52 = .ok (.iconst 1, 1) := by decide +kernel
theorem dL_law_53 : decode cL_law 53 = .ok (.invokevirtual 9, 3) := by decide +kernel
theorem dL_law_56 : decode cL_law 56 = .ok (.iconst 5, 1) := by decide +kernel
theorem dL_law_57 : decode cL_law 57 = .ok (.if_icmp .ne 38, 3) := by decide +kernel
theorem dL_law_60 : decode cL_law 60 = .ok (.aload_n 1, 1) := by decide +kernel
theorem dL_law_61 : decode cL_law 61 = .ok (.bipush 6, 2) := by decide +kernel
theorem dL_law_63 : decode cL_law 63 = .ok (.invokevirtual 9, 3) := by decide +kernel
theorem dL_law_66 : decode cL_law 66 = .ok (.iconst 1, 1) := by decide +kernel
theorem dL_law_67 : decode cL_law 67 = .ok (.if_icmp .ne 28, 3) := by decide +kernel
theorem dL_law_70 : decode cL_law 70 = .ok (.aload_n 1, 1) := by decide +kernel
theorem dL_law_71 : decode cL_law 71 = .ok (.invokevirtual 86, 3) := by decide +kernel
theorem dL_law_74 : decode cL_law 74 = .ok (.bipush (-5), 2) := by decide +kernel
theorem dL_law_76 : decode cL_law 76 = .ok (.if_icmp .ne 19, 3) := by decide +kernel
theorem dL_law_79 : decode cL_law 79 = .ok (.aload_n 1, 1) := by decide +kernel
theorem dL_law_80 : decode cL_law 80 = .ok (.iload 4, 2) := by decide +kernel
theorem dL_law_82 : decode cL_law 82 = .ok (.iload 5, 2) := by decide +kernel
theorem dL_law_84 : decode cL_law 84 = .ok (.invokevirtual 89, 3) := by decide +kernel
theorem dL_law_87 : decode cL_law 87 = .ok (.iload 4, 2) := by decide +kernel
theorem dL_law_89 : decode cL_law 89 = .ok (.iload 5, 2) := by decide +kernel
theorem dL_law_91 : decode cL_law 91 = .ok (.imul, 1) := by decide +kernel
theorem dL_law_92 : decode cL_law 92 = .ok (.if_icmp .eq 5, 3) := by decide +kernel
theorem dL_law_95 : decode cL_law 95 = .ok (.iconst 0, 1) := by decide +kernel
theorem dL_law_96 : decode cL_law 96 = .ok (.ireturn, 1) := by decide +kernel
theorem dL_law_97 : decode cL_law 97 = .ok (.iconst 0, 1) := by decide +kernel
theorem dL_law_98 : decode cL_law 98 = .ok (.istore 6, 2) := by decide +kernel
theorem dL_law_100 : decode cL_law 100 = .ok (.iload 6, 2) := by decide +kernel
theorem dL_law_102 : decode cL_law 102 = .ok (.bipush 6, 2) := by decide +kernel
theorem dL_law_104 : decode cL_law 104 = .ok (.if_icmp .ge 14, 3) := by decide +kernel
theorem dL_law_107 : decode cL_law 107 = .ok (.aload_n 2, 1) := by decide +kernel
theorem dL_law_108 : decode cL_law 108 = .ok (.iload 6, 2) := by decide +kernel
theorem dL_law_110 : decode cL_law 110 = .ok (.iconst 1, 1) := by decide +kernel
theorem dL_law_111 : decode cL_law 111 = .ok (.iastore, 1) := by decide +kernel
theorem dL_law_112 : decode cL_law 112 = .ok (.iinc 6 1, 3) := by decide +kernel
theorem dL_law_115 : decode cL_law 115 = .ok (.goto (-15), 3) := by decide +kernel
theorem dL_law_118 : decode cL_law 118 = .ok (.iconst 0, 1) := by decide +kernel
theorem dL_law_119 : decode cL_law 119 = .ok (.istore 6, 2) := by decide +kernel
theorem dL_law_121 : decode cL_law 121 = .ok (.iconst 0, 1) := by decide +kernel
theorem dL_law_122 : decode cL_law 122 = .ok (.istore 7, 2) := by decide +kernel
theorem dL_law_124 : decode cL_law 124 = .ok (.iload 7, 2) := by decide +kernel
theorem dL_law_126 : decode cL_law 126 = .ok (.bipush 22, 2) := by decide +kernel
theorem dL_law_128 : decode cL_law 128 = .ok (.if_icmp .ge 383, 3) := by decide +kernel
theorem dL_law_131 : decode cL_law 131 = .ok (.aload_n 0, 1) := by decide +kernel
theorem dL_law_132 : decode cL_law 132 = .ok (.iconst 1, 1) := by decide +kernel
theorem dL_law_133 : decode cL_law 133 = .ok (.iconst 2, 1) := by decide +kernel
theorem dL_law_134 : decode cL_law 134 = .ok (.iload 7, 2) := by decide +kernel
theorem dL_law_136 : decode cL_law 136 = .ok (.imul, 1) := by decide +kernel
theorem dL_law_137 : decode cL_law 137 = .ok (.iadd, 1) := by decide +kernel
theorem dL_law_138 : decode cL_law 138 = .ok (.invokestatic 100, 3) := by decide +kernel
theorem dL_law_141 : decode cL_law 141 = .ok (.istore 8, 2) := by decide +kernel
theorem dL_law_143 : decode cL_law 143 = .ok (.aload_n 0, 1) := by decide +kernel
theorem dL_law_144 : decode cL_law 144 = .ok (.iconst 2, 1) := by decide +kernel
theorem dL_law_145 : decode cL_law 145 = .ok (.iconst 2, 1) := by decide +kernel
theorem dL_law_146 : decode cL_law 146 = .ok (.iload 7, 2) := by decide +kernel
theorem dL_law_148 : decode cL_law 148 = .ok (.imul, 1) := by decide +kernel
theorem dL_law_149 : decode cL_law 149 = .ok (.iadd, 1) := by decide +kernel
theorem dL_law_150 : decode cL_law 150 = .ok (.invokestatic 100, 3) := by decide +kernel
theorem dL_law_153 : decode cL_law 153 = .ok (.istore 9, 2) := by decide +kernel
theorem dL_law_155 : decode cL_law 155 = .ok (.iload 4, 2) := by decide +kernel
theorem dL_law_157 : decode cL_law 157 = .ok (.iload 5, 2) := by decide +kernel
theorem dL_law_159 : decode cL_law 159 = .ok (.imul, 1) := by decide +kernel
theorem dL_law_160 : decode cL_law 160 = .ok (.istore 10, 2) := by decide +kernel
theorem dL_law_162 : decode cL_law 162 = .ok (.iload 8, 2) := by decide +kernel
theorem dL_law_164 : decode cL_law 164 = .ok (.bipush 20, 2) := by decide +kernel
theorem dL_law_166 : decode cL_law 166 = .ok (.ishr, 1) := by decide +kernel
theorem dL_law_167 : decode cL_law 167 = .ok (.bipush 6, 2) := by decide +kernel
theorem dL_law_169 : decode cL_law 169 = .ok (.invokestatic 44, 3) := by decide +kernel
theorem dL_law_172 : decode cL_law 172 = .ok (.istore 11, 2) := by decide +kernel
theorem dL_law_174 : decode cL_law 174 = .ok (.iload 11, 2) := by decide +kernel
theorem dL_law_176 : decode cL_law 176 = .ok (.iconst 3, 1) := by decide +kernel
theorem dL_law_177 : decode cL_law 177 = .ok (.if_icmp .ge 22, 3) := by decide +kernel
theorem dL_law_180 : decode cL_law 180 = .ok (.aload_n 1, 1) := by decide +kernel
theorem dL_law_181 : decode cL_law 181 = .ok (.iload 8, 2) := by decide +kernel
theorem dL_law_183 : decode cL_law 183 = .ok (.iload 9, 2) := by decide +kernel
theorem dL_law_185 : decode cL_law 185 = .ok (.iload 6, 2) := by decide +kernel
theorem dL_law_187 : decode cL_law 187 = .ok (.invokestatic 104, 3) := by decide +kernel
theorem dL_law_190 : decode cL_law 190 = .ok (.istore 6, 2) := by decide +kernel
theorem dL_law_192 : decode cL_law 192 = .ok (.iload 6, 2) := by decide +kernel
theorem dL_law_194 : decode cL_law 194 = .ok (.ifCond .ge 254, 3) := by decide +kernel
theorem dL_law_197 : decode cL_law 197 = .ok (.iconst 0, 1) := by decide +kernel
theorem dL_law_198 : decode cL_law 198 = .ok (.ireturn, 1) := by decide +kernel
theorem dL_law_199 : decode cL_law 199 = .ok (.iload 11, 2) := by decide +kernel
theorem dL_law_201 : decode cL_law 201 = .ok (.iconst 3, 1) := by decide +kernel
theorem dL_law_202 : decode cL_law 202 = .ok (.if_icmp .ne 167, 3) := by decide +kernel
theorem dL_law_205 : decode cL_law 205 = .ok (.iload 8, 2) := by decide +kernel
theorem dL_law_207 : decode cL_law 207 = .ok (.iconst 1, 1) := by decide +kernel
theorem dL_law_208 : decode cL_law 208 = .ok (.iand, 1) := by decide +kernel
theorem dL_law_209 : decode cL_law 209 = .ok (.iconst 1, 1) := by decide +kernel
theorem dL_law_210 : decode cL_law 210 = .ok (.if_icmp .ne 7, 3) := by decide +kernel
theorem dL_law_213 : decode cL_law 213 = .ok (.iconst 1, 1) := by decide +kernel
theorem dL_law_214 : decode cL_law 214 = .ok (.goto 4, 3) := by decide +kernel
theorem dL_law_217 : decode cL_law 217 = .ok (.iconst 0, 1) := by decide +kernel
theorem dL_law_218 : decode cL_law 218 = .ok (.istore 12, 2) := by decide +kernel
theorem dL_law_220 : decode cL_law 220 = .ok (.iload 8, 2) := by decide +kernel
theorem dL_law_222 : decode cL_law 222 = .ok (.iconst 1, 1) := by decide +kernel
theorem dL_law_223 : decode cL_law 223 = .ok (.ishr, 1) := by decide +kernel
theorem dL_law_224 : decode cL_law 224 = .ok (.iconst 3, 1) := by decide +kernel
theorem dL_law_225 : decode cL_law 225 = .ok (.invokestatic 44, 3) := by decide +kernel
theorem dL_law_228 : decode cL_law 228 = .ok (.istore 13, 2) := by decide +kernel
theorem dL_law_230 : decode cL_law 230 = .ok (.iload 8, 2) := by decide +kernel
theorem dL_law_232 : decode cL_law 232 = .ok (.iconst 4, 1) := by decide +kernel
theorem dL_law_233 : decode cL_law 233 = .ok (.ishr, 1) := by decide +kernel
theorem dL_law_234 : decode cL_law 234 = .ok (.iload 12, 2) := by decide +kernel
theorem dL_law_236 : decode cL_law 236 = .ok (.ifCond .eq 8, 3) := by decide +kernel
theorem dL_law_239 : decode cL_law 239 = .ok (.iload 4, 2) := by decide +kernel
theorem dL_law_241 : decode cL_law 241 = .ok (.goto 5, 3) := by decide +kernel
theorem dL_law_244 : decode cL_law 244 = .ok (.iload 5, 2) := by decide +kernel
theorem dL_law_246 : decode cL_law 246 = .ok (.invokestatic 44, 3) := by decide +kernel
theorem dL_law_249 : decode cL_law 249 = .ok (.istore 14, 2) := by decide +kernel
theorem dL_law_251 : decode cL_law 251 = .ok (.aload_n 1, 1) := by decide +kernel
theorem dL_law_252 : decode cL_law 252 = .ok (.iload 12, 2) := by decide +kernel
theorem dL_law_254 : decode cL_law 254 = .ok (.ifCond .eq 7, 3) := by decide +kernel
theorem dL_law_257 : decode cL_law 257 = .ok (.iconst 4, 1) := by decide +kernel
theorem dL_law_258 : decode cL_law 258 = .ok (.goto 4, 3) := by decide +kernel
theorem dL_law_261 : decode cL_law 261 = .ok (.iconst 2, 1) := by decide +kernel
theorem dL_law_262 : decode cL_law 262 = .ok (.invokevirtual 9, 3) := by decide +kernel
theorem dL_law_265 : decode cL_law 265 = .ok (.iload 13, 2) := by decide +kernel
theorem dL_law_267 : decode cL_law 267 = .ok (.if_icmp .ne 26, 3) := by decide +kernel
theorem dL_law_270 : decode cL_law 270 = .ok (.aload_n 1, 1) := by decide +kernel
theorem dL_law_271 : decode cL_law 271 = .ok (.iload 12, 2) := by decide +kernel
theorem dL_law_273 : decode cL_law 273 = .ok (.ifCond .eq 7, 3) := by decide +kernel
theorem dL_law_276 : decode cL_law 276 = .ok (.iconst 5, 1) := by decide +kernel
theorem dL_law_277 : decode cL_law 277 = .ok (.goto 4, 3) := by decide +kernel
theorem dL_law_280 : decode cL_law 280 = .ok (.iconst 3, 1) := by decide +kernel
theorem dL_law_281 : decode cL_law 281 = .ok (.invokevirtual 9, 3) := by decide +kernel
theorem dL_law_284 : decode cL_law 284 = .ok (.iload 14, 2) := by decide +kernel
theorem dL_law_286 : decode cL_law 286 = .ok (.if_icmp .ne 7, 3) := by decide +kernel
theorem dL_law_289 : decode cL_law 289 = .ok (.iconst 1, 1) := by decide +kernel
theorem dL_law_290 : decode cL_law 290 = .ok (.goto 4, 3) := by decide +kernel
theorem dL_law_293 : decode cL_law 293 = .ok (.iconst 0, 1) := by decide +kernel
theorem dL_law_294 : decode cL_law 294 = .ok (.istore 15, 2) := by decide +kernel
theorem dL_law_296 : decode cL_law 296 = .ok (.aload_n 1, 1) := by decide +kernel
theorem dL_law_297 : decode cL_law 297 = .ok (.iload 12, 2) := by decide +kernel
theorem dL_law_299 : decode cL_law 299 = .ok (.iload 13, 2) := by decide +kernel
theorem dL_law_301 : decode cL_law 301 = .ok (.iload 14, 2) := by decide +kernel
theorem dL_law_303 : decode cL_law 303 = .ok (.invokevirtual 92, 3) := by decide +kernel
theorem dL_law_306 : decode cL_law 306 = .ok (.iload 15, 2) := by decide +kernel
theorem dL_law_308 : decode cL_law 308 = .ok (.ifCond .eq 7, 3) := by decide +kernel
theorem dL_law_311 : decode cL_law 311 = .ok (.iconst 0, 1) := by decide +kernel
theorem dL_law_312 : decode cL_law 312 = .ok (.goto 4, 3) := by decide +kernel
theorem dL_law_315 : decode cL_law 315 = .ok (.iconst 1, 1) := by decide +kernel
theorem dL_law_316 : decode cL_law 316 = .ok (.if_icmp .ne 48, 3) := by decide +kernel
theorem dL_law_319 : decode cL_law 319 = .ok (.aload_n 1, 1) := by decide +kernel
theorem dL_law_320 : decode cL_law 320 = .ok (.iload 12, 2) := by decide +kernel
theorem dL_law_322 : decode cL_law 322 = .ok (.ifCond .eq 7, 3) := by decide +kernel
theorem dL_law_325 : decode cL_law 325 = .ok (.iconst 4, 1) := by decide +kernel
theorem dL_law_326 : decode cL_law 326 = .ok (.goto 4, 3) := by decide +kernel
theorem dL_law_329 : decode cL_law 329 = .ok (.iconst 2, 1) := by decide +kernel
theorem dL_law_330 : decode cL_law 330 = .ok (.invokevirtual 9, 3) := by decide +kernel
theorem dL_law_333 : decode cL_law 333 = .ok (.iload 13, 2) := by decide +kernel
theorem dL_law_335 : decode cL_law 335 = .ok (.if_icmp .ne 29, 3) := by decide +kernel
theorem dL_law_338 : decode cL_law 338 = .ok (.aload_n 1, 1) := by decide +kernel
theorem dL_law_339 : decode cL_law 339 = .ok (.iload 12, 2) := by decide +kernel
theorem dL_law_341 : decode cL_law 341 = .ok (.ifCond .eq 7, 3) := by decide +kernel
theorem dL_law_344 : decode cL_law 344 = .ok (.iconst 5, 1) := by decide +kernel
theorem dL_law_345 : decode cL_law 345 = .ok (.goto 4, 3) := by decide +kernel
theorem dL_law_348 : decode cL_law 348 = .ok (.iconst 3, 1) := by decide +kernel
theorem dL_law_349 : decode cL_law 349 = .ok (.invokevirtual 9, 3) := by decide +kernel
theorem dL_law_352 : decode cL_law 352 = .ok (.iload 14, 2) := by decide +kernel
theorem dL_law_354 : decode cL_law 354 = .ok (.if_icmp .ne 10, 3) := by decide +kernel
theorem dL_law_357 : decode cL_law 357 = .ok (.aload_n 1, 1) := by decide +kernel
theorem dL_law_358 : decode cL_law 358 = .ok (.invokestatic 108, 3) := by decide +kernel
theorem dL_law_361 : decode cL_law 361 = .ok (.ifCond .ne 5, 3) := by decide +kernel
theorem dL_law_364 : decode cL_law 364 = .ok (.iconst 0, 1) := by decide +kernel
theorem dL_law_365 : decode cL_law 365 = .ok (.ireturn, 1) := by decide +kernel
theorem dL_law_366 : decode cL_law 366 = .ok (.goto 82, 3) := by decide +kernel
theorem dL_law_369 : decode cL_law 369 = .ok (.iload 11, 2) := by decide +kernel
theorem dL_law_371 : decode cL_law 371 = .ok (.iconst 4, 1) := by decide +kernel
theorem dL_law_372 : decode cL_law 372 = .ok (.if_icmp .ne 50, 3) := by decide +kernel
theorem dL_law_375 : decode cL_law 375 = .ok (.iload 8, 2) := by decide +kernel
theorem dL_law_377 : decode cL_law 377 = .ok (.iconst 3, 1) := by decide +kernel
theorem dL_law_378 : decode cL_law 378 = .ok (.invokestatic 44, 3) := by decide +kernel
theorem dL_law_381 : decode cL_law 381 = .ok (.istore 12, 2) := by decide +kernel
theorem dL_law_383 : decode cL_law 383 = .ok (.aload_n 2, 1) := by decide +kernel
theorem dL_law_384 : decode cL_law 384 = .ok (.iload 12, 2) := by decide +kernel
theorem dL_law_386 : decode cL_law 386 = .ok (.iaload, 1) := by decide +kernel
theorem dL_law_387 : decode cL_law 387 = .ok (.istore 13, 2) := by decide +kernel
theorem dL_law_389 : decode cL_law 389 = .ok (.aload_n 2, 1) := by decide +kernel
theorem dL_law_390 : decode cL_law 390 = .ok (.iload 12, 2) := by decide +kernel
theorem dL_law_392 : decode cL_law 392 = .ok (.iload 8, 2) := by decide +kernel
theorem dL_law_394 : decode cL_law 394 = .ok (.iconst 4, 1) := by decide +kernel
theorem dL_law_395 : decode cL_law 395 = .ok (.ishr, 1) := by decide +kernel
theorem dL_law_396 : decode cL_law 396 = .ok (.bipush 10, 2) := by decide +kernel
theorem dL_law_398 : decode cL_law 398 = .ok (.invokestatic 44, 3) := by decide +kernel
theorem dL_law_401 : decode cL_law 401 = .ok (.iastore, 1) := by decide +kernel
theorem dL_law_402 : decode cL_law 402 = .ok (.aload_n 1, 1) := by decide +kernel
theorem dL_law_403 : decode cL_law 403 = .ok (.iload 12, 2) := by decide +kernel
theorem dL_law_405 : decode cL_law 405 = .ok (.aload_n 2, 1) := by decide +kernel
theorem dL_law_406 : decode cL_law 406 = .ok (.iload 12, 2) := by decide +kernel
theorem dL_law_408 : decode cL_law 408 = .ok (.iaload, 1) := by decide +kernel
theorem dL_law_409 : decode cL_law 409 = .ok (.invokevirtual 96, 3) := by decide +kernel
theorem dL_law_412 : decode cL_law 412 = .ok (.iload 13, 2) := by decide +kernel
theorem dL_law_414 : decode cL_law 414 = .ok (.if_icmp .eq 5, 3) := by decide +kernel
theorem dL_law_417 : decode cL_law 417 = .ok (.iconst 0, 1) := by decide +kernel
theorem dL_law_418 : decode cL_law 418 = .ok (.ireturn, 1) := by decide +kernel
theorem dL_law_419 : decode cL_law 419 = .ok (.goto 29, 3) := by decide +kernel
theorem dL_law_422 : decode cL_law 422 = .ok (.aload_n 1, 1) := by decide +kernel
theorem dL_law_423 : decode cL_law 423 = .ok (.iload 8, 2) := by decide +kernel
theorem dL_law_425 : decode cL_law 425 = .ok (.iload 10, 2) := by decide +kernel
theorem dL_law_427 : decode cL_law 427 = .ok (.invokestatic 44, 3) := by decide +kernel
theorem dL_law_430 : decode cL_law 430 = .ok (.iload 9, 2) := by decide +kernel
theorem dL_law_432 : decode cL_law 432 = .ok (.iconst 3, 1) := by decide +kernel
theorem dL_law_433 : decode cL_law 433 = .ok (.iand, 1) := by decide +kernel
theorem dL_law_434 : decode cL_law 434 = .ok (.iload 8, 2) := by decide +kernel
theorem dL_law_436 : decode cL_law 436 = .ok (.iconst 2, 1) := by decide +kernel
theorem dL_law_437 : decode cL_law 437 = .ok (.ishr, 1) := by decide +kernel
theorem dL_law_438 : decode cL_law 438 = .ok (.iload 9, 2) := by decide +kernel
theorem dL_law_440 : decode cL_law 440 = .ok (.invokestatic 112, 3) := by decide +kernel
theorem dL_law_443 : decode cL_law 443 = .ok (.ifCond .ne 5, 3) := by decide +kernel
theorem dL_law_446 : decode cL_law 446 = .ok (.iconst 0, 1) := by decide +kernel
theorem dL_law_447 : decode cL_law 447 = .ok (.ireturn, 1) := by decide +kernel
theorem dL_law_448 : decode cL_law 448 = .ok (.aload_n 1, 1) := by decide +kernel
theorem dL_law_449 : decode cL_law 449 = .ok (.invokestatic 116, 3) := by decide +kernel
theorem dL_law_452 : decode cL_law 452 = .ok (.ifCond .eq 51, 3) := by decide +kernel
theorem dL_law_455 : decode cL_law 455 = .ok (.aload_n 1, 1) := by decide +kernel
theorem dL_law_456 : decode cL_law 456 = .ok (.iload 8, 2) := by decide +kernel
theorem dL_law_458 : decode cL_law 458 = .ok (.bipush 6, 2) := by decide +kernel
theorem dL_law_460 : decode cL_law 460 = .ok (.invokestatic 44, 3) := by decide +kernel
theorem dL_law_463 : decode cL_law 463 = .ok (.invokestatic 119, 3) := by decide +kernel
theorem dL_law_466 : decode cL_law 466 = .ok (.ifCond .eq 37, 3) := by decide +kernel
theorem dL_law_469 : decode cL_law 469 = .ok (.iload 7, 2) := by decide +kernel
theorem dL_law_471 : decode cL_law 471 = .ok (.iconst 2, 1) := by decide +kernel
theorem dL_law_472 : decode cL_law 472 = .ok (.irem, 1) := by decide +kernel
theorem dL_law_473 : decode cL_law 473 = .ok (.ifCond .ne 32, 3) := by decide +kernel
theorem dL_law_476 : decode cL_law 476 = .ok (.aload_n 1, 1) := by decide +kernel
theorem dL_law_477 : decode cL_law 477 = .ok (.aload_n 2, 1) := by decide +kernel
theorem dL_law_478 : decode cL_law 478 = .ok (.iload 9, 2) := by decide +kernel
theorem dL_law_480 : decode cL_law 480 = .ok (.iload 10, 2) := by decide +kernel
theorem dL_law_482 : decode cL_law 482 = .ok (.invokestatic 44, 3) := by decide +kernel
theorem dL_law_485 : decode cL_law 485 = .ok (.iload 9, 2) := by decide +kernel
theorem dL_law_487 : decode cL_law 487 = .ok (.bipush 8, 2) := by decide +kernel
theorem dL_law_489 : decode cL_law 489 = .ok (.ishr, 1) := by decide +kernel
theorem dL_law_490 : decode cL_law 490 = .ok (.iload 10, 2) := by decide +kernel
theorem dL_law_492 : decode cL_law 492 = .ok (.invokestatic 44, 3) := by decide +kernel
theorem dL_law_495 : decode cL_law 495 = .ok (.iload 8, 2) := by decide +kernel
theorem dL_law_497 : decode cL_law 497 = .ok (.invokestatic 123, 3) := by decide +kernel
theorem dL_law_500 : decode cL_law 500 = .ok (.ifCond .ne 5, 3) := by decide +kernel
theorem dL_law_503 : decode cL_law 503 = .ok (.iconst 0, 1) := by decide +kernel
theorem dL_law_504 : decode cL_law 504 = .ok (.ireturn, 1) := by decide +kernel
theorem dL_law_505 : decode cL_law 505 = .ok (.iinc 7 1, 3) := by decide +kernel
theorem dL_law_508 : decode cL_law 508 = .ok (.goto (-384), 3) := by decide +kernel
theorem dL_law_511 : decode cL_law 511 = .ok (.iload 6, 2) := by decide +kernel
theorem dL_law_513 : decode cL_law 513 = .ok (.ifCond .le 17, 3) := by decide +kernel
theorem dL_law_516 : decode cL_law 516 = .ok (.iinc 6 (-1), 3) := by decide +kernel
theorem dL_law_519 : decode cL_law 519 = .ok (.aload_n 1, 1) := by decide +kernel
theorem dL_law_520 : decode cL_law 520 = .ok (.invokevirtual 86, 3) := by decide +kernel
theorem dL_law_523 : decode cL_law 523 = .ok (.iload 6, 2) := by decide +kernel
theorem dL_law_525 : decode cL_law 525 = .ok (.if_icmp .eq (-14), 3) := by decide +kernel
theorem dL_law_528 : decode cL_law 528 = .ok (.iconst 0, 1) := by decide +kernel
theorem dL_law_529 : decode cL_law 529 = .ok (.ireturn, 1) := by decide +kernel
theorem dL_law_530 : decode cL_law 530 = .ok (.aload_n 1, 1) := by decide +kernel
theorem dL_law_531 : decode cL_law 531 = .ok (.invokevirtual 86, 3) := by decide +kernel
theorem dL_law_534 : decode cL_law 534 = .ok (.bipush (-5), 2) := by decide +kernel
theorem dL_law_536 : decode cL_law 536 = .ok (.if_icmp .ne 14, 3) := by decide +kernel
theorem dL_law_539 : decode cL_law 539 = .ok (.aload_n 1, 1) := by decide +kernel
theorem dL_law_540 : decode cL_law 540 = .ok (.invokestatic 127, 3) := by decide +kernel
theorem dL_law_543 : decode cL_law 543 = .ok (.ifCond .eq 7, 3) := by decide +kernel
theorem dL_law_546 : decode cL_law 546 = .ok (.iconst 1, 1) := by decide +kernel
theorem dL_law_547 : decode cL_law 547 = .ok (.goto 4, 3) := by decide +kernel
theorem dL_law_550 : decode cL_law 550 = .ok (.iconst 0, 1) := by decide +kernel
theorem dL_law_551 : decode cL_law 551 = .ok (.ireturn, 1) := by decide +kernel
end
section
def ftX0 : List (Nat × Nat × Nat × Nat) := [(11, 0, 0, 176), (16, 0, 2, 178), (20, 0, 1, 177)]
theorem ftX0_ok : ftOK RX0 ftX0 = true := by decide +kernel
def ftX1 : List (Nat × Nat × Nat × Nat) := [(9, 1, 2, 196), (15, 1, 3, 197), (18, 1, 4, 198), (21, 1, 5, 199), (24, 1, 6, 200), (31, 1, 7, 201), (35, 1, 0, 194), (39, 1, 1, 195), (42, 1, 8, 202)]
theorem ftX1_ok : ftOK RX1 ftX1 = true := by decide +kernel
def ftX2 : List (Nat × Nat × Nat × Nat) := [(9, 2, 0, 63), (15, 2, 1, 64)]
theorem ftX2_ok : ftOK RX2 ftX2 = true := by decide +kernel
def ftX3 : List (Nat × Nat × Nat × Nat) := [(12, 3, 0, 70), (18, 3, 1, 71), (21, 3, 2, 72), (25, 3, 3, 73), (28, 3, 4, 74), (32, 3, 5, 75)]
theorem ftX3_ok : ftOK RX3 ftX3 = true := by decide +kernel
def ftX4 : List (Nat × Nat × Nat × Nat) := [(9, 4, 0, 131), (15, 4, 1, 132)]
theorem ftX4_ok : ftOK RX4 ftX4 = true := by decide +kernel
def ftX5 : List (Nat × Nat × Nat × Nat) := [(9, 5, 0, 102), (15, 5, 1, 103)]
theorem ftX5_ok : ftOK RX5 ftX5 = true := by decide +kernel
def ftX6 : List (Nat × Nat × Nat × Nat) := [(9, 6, 1, 146), (15, 6, 0, 145), (37, 6, 3, 148), (41, 6, 4, 149), (44, 6, 5, 150), (47, 6, 6, 151), (62, 6, 2, 147)]
theorem ftX6_ok : ftOK RX6 ftX6 = true := by decide +kernel
def ftX7 : List (Nat × Nat × Nat × Nat) := [(9, 7, 2, 111), (15, 7, 3, 112), (21, 7, 4, 113), (25, 7, 0, 109), (29, 7, 1, 110)]
theorem ftX7_ok : ftOK RX7 ftX7 = true := by decide +kernel
def ftX8 : List (Nat × Nat × Nat × Nat) := [(12, 8, 0, 322), (16, 8, 1, 323), (25, 8, 2, 324), (32, 8, 3, 325), (41, 8, 4, 326), (48, 8, 5, 327), (55, 8, 6, 328), (59, 8, 7, 329)]
theorem ftX8_ok : ftOK RX8 ftX8 = true := by decide +kernel
theorem wcX0_init : Cond.code yX0_init cX0_init 1 none ∈ lw_tbl := mem_at 172 (by decide +kernel)
theorem wiX0_init : Cond.instanceMethod yX0_init ∈ lw_tbl := mem_at 171 (by decide +kernel)
theorem wcX0_size : Cond.code yX0_size cX0_size 1 (some .int) ∈ lw_tbl := mem_at 403 (by decide +kernel)
theorem wiX0_size : Cond.instanceMethod yX0_size ∈ lw_tbl := mem_at 401 (by decide +kernel)
theorem wlX0_size : Cond.selects RX0 yX0_size yX0_size ∈ lw_tbl := mem_at 402 (by decide +kernel)
theorem wcX0_forget : Cond.code yX0_forget cX0_forget 1 none ∈ lw_tbl := mem_at 280 (by decide +kernel)
theorem wiX0_forget : Cond.instanceMethod yX0_forget ∈ lw_tbl := mem_at 278 (by decide +kernel)
theorem wlX0_forget : Cond.selects RX0 yX0_forget yX0_forget ∈ lw_tbl := mem_at 279 (by decide +kernel)
theorem wcX0_record : Cond.code yX0_record cX0_record 2 none ∈ lw_tbl := mem_at 695 (by decide +kernel)
theorem wiX0_record : Cond.instanceMethod yX0_record ∈ lw_tbl := mem_at 693 (by decide +kernel)
theorem wlX0_record : Cond.selects RX0 yX0_record yX0_record ∈ lw_tbl := mem_at 694 (by decide +kernel)
theorem wcX0_restore : Cond.code yX0_restore cX0_restore 2 none ∈ lw_tbl := mem_at 411 (by decide +kernel)
theorem wiX0_restore : Cond.instanceMethod yX0_restore ∈ lw_tbl := mem_at 409 (by decide +kernel)
theorem wlX0_restore : Cond.selects RX0 yX0_restore yX0_restore ∈ lw_tbl := mem_at 410 (by decide +kernel)
theorem wcX0_place : Cond.code yX0_place cX0_place 3 (some .int) ∈ lw_tbl := mem_at 415 (by decide +kernel)
theorem wiX0_place : Cond.instanceMethod yX0_place ∈ lw_tbl := mem_at 414 (by decide +kernel)
theorem wlX0_place : Cond.selects RX0 yX0_place yX0_place ∈ lw_tbl := mem_at 10 (by decide +kernel)
theorem wcX1_init : Cond.code yX1_init cX1_init 3 none ∈ lw_tbl := mem_at 190 (by decide +kernel)
theorem wiX1_init : Cond.instanceMethod yX1_init ∈ lw_tbl := mem_at 189 (by decide +kernel)
theorem wcX1_number : Cond.code yX1_number cX1_number 1 (some .int) ∈ lw_tbl := mem_at 395 (by decide +kernel)
theorem wiX1_number : Cond.instanceMethod yX1_number ∈ lw_tbl := mem_at 393 (by decide +kernel)
theorem wlX1_number : Cond.selects RX1 yX1_number yX1_number ∈ lw_tbl := mem_at 394 (by decide +kernel)
theorem wcX1_labelOf : Cond.code yX1_labelOf cX1_labelOf 2 (some .int) ∈ lw_tbl := mem_at 471 (by decide +kernel)
theorem wiX1_labelOf : Cond.instanceMethod yX1_labelOf ∈ lw_tbl := mem_at 469 (by decide +kernel)
theorem wlX1_labelOf : Cond.selects RX1 yX1_labelOf yX1_labelOf ∈ lw_tbl := mem_at 470 (by decide +kernel)
theorem wcX1_sizeOf : Cond.code yX1_sizeOf cX1_sizeOf 2 (some .int) ∈ lw_tbl := mem_at 711 (by decide +kernel)
theorem wiX1_sizeOf : Cond.instanceMethod yX1_sizeOf ∈ lw_tbl := mem_at 709 (by decide +kernel)
theorem wlX1_sizeOf : Cond.selects RX1 yX1_sizeOf yX1_sizeOf ∈ lw_tbl := mem_at 710 (by decide +kernel)
theorem wcX1_find : Cond.code yX1_find cX1_find 2 none ∈ lw_tbl := mem_at 284 (by decide +kernel)
theorem wiX1_find : Cond.instanceMethod yX1_find ∈ lw_tbl := mem_at 282 (by decide +kernel)
theorem wlX1_find : Cond.selects RX1 yX1_find yX1_find ∈ lw_tbl := mem_at 283 (by decide +kernel)
theorem wcX1_flood : Cond.code yX1_flood cX1_flood 3 none ∈ lw_tbl := mem_at 289 (by decide +kernel)
theorem wiX1_flood : Cond.instanceMethod yX1_flood ∈ lw_tbl := mem_at 288 (by decide +kernel)
theorem wlX1_flood : Cond.selects RX1 yX1_flood yX1_flood ∈ lw_tbl := mem_at 6 (by decide +kernel)
theorem wcX1_enter : Cond.code yX1_enter cX1_enter 5 none ∈ lw_tbl := mem_at 297 (by decide +kernel)
theorem wiX1_enter : Cond.instanceMethod yX1_enter ∈ lw_tbl := mem_at 296 (by decide +kernel)
theorem wlX1_enter : Cond.selects RX1 yX1_enter yX1_enter ∈ lw_tbl := mem_at 7 (by decide +kernel)
theorem wcX1_spread : Cond.code yX1_spread cX1_spread 5 none ∈ lw_tbl := mem_at 313 (by decide +kernel)
theorem wiX1_spread : Cond.instanceMethod yX1_spread ∈ lw_tbl := mem_at 312 (by decide +kernel)
theorem wlX1_spread : Cond.selects RX1 yX1_spread yX1_spread ∈ lw_tbl := mem_at 8 (by decide +kernel)
theorem wcX1_changesSince : Cond.code yX1_changesSince cX1_changesSince 5 (some .int) ∈ lw_tbl := mem_at 699 (by decide +kernel)
theorem wiX1_changesSince : Cond.instanceMethod yX1_changesSince ∈ lw_tbl := mem_at 697 (by decide +kernel)
theorem wlX1_changesSince : Cond.selects RX1 yX1_changesSince yX1_changesSince ∈ lw_tbl := mem_at 698 (by decide +kernel)
theorem wcX1_labelNumber : Cond.code yX1_labelNumber cX1_labelNumber 4 (some .int) ∈ lw_tbl := mem_at 463 (by decide +kernel)
theorem wiX1_labelNumber : Cond.instanceMethod yX1_labelNumber ∈ lw_tbl := mem_at 461 (by decide +kernel)
theorem wlX1_labelNumber : Cond.selects RX1 yX1_labelNumber yX1_labelNumber ∈ lw_tbl := mem_at 462 (by decide +kernel)
theorem wcX1_greatestOf : Cond.code yX1_greatestOf cX1_greatestOf 4 (some .int) ∈ lw_tbl := mem_at 533 (by decide +kernel)
theorem wiX1_greatestOf : Cond.instanceMethod yX1_greatestOf ∈ lw_tbl := mem_at 531 (by decide +kernel)
theorem wlX1_greatestOf : Cond.selects RX1 yX1_greatestOf yX1_greatestOf ∈ lw_tbl := mem_at 532 (by decide +kernel)
theorem wcX1_property : Cond.code yX1_property cX1_property 3 (some .int) ∈ lw_tbl := mem_at 483 (by decide +kernel)
theorem wiX1_property : Cond.instanceMethod yX1_property ∈ lw_tbl := mem_at 481 (by decide +kernel)
theorem wlX1_property : Cond.selects RX1 yX1_property yX1_property ∈ lw_tbl := mem_at 482 (by decide +kernel)
theorem wcX1_leadsOut : Cond.code yX1_leadsOut cX1_leadsOut 4 (some .boolean) ∈ lw_tbl := mem_at 491 (by decide +kernel)
theorem wiX1_leadsOut : Cond.instanceMethod yX1_leadsOut ∈ lw_tbl := mem_at 490 (by decide +kernel)
theorem wlX1_leadsOut : Cond.selects RX1 yX1_leadsOut yX1_leadsOut ∈ lw_tbl := mem_at 12 (by decide +kernel)
theorem wcX1_bordersToOthers : Cond.code yX1_bordersToOthers cX1_bordersToOthers 5 (some .int) ∈ lw_tbl := mem_at 487 (by decide +kernel)
theorem wiX1_bordersToOthers : Cond.instanceMethod yX1_bordersToOthers ∈ lw_tbl := mem_at 486 (by decide +kernel)
theorem wlX1_bordersToOthers : Cond.selects RX1 yX1_bordersToOthers yX1_bordersToOthers ∈ lw_tbl := mem_at 11 (by decide +kernel)
theorem wcX1_bordersToNothing : Cond.code yX1_bordersToNothing cX1_bordersToNothing 5 (some .int) ∈ lw_tbl := mem_at 495 (by decide +kernel)
theorem wiX1_bordersToNothing : Cond.instanceMethod yX1_bordersToNothing ∈ lw_tbl := mem_at 494 (by decide +kernel)
theorem wlX1_bordersToNothing : Cond.selects RX1 yX1_bordersToNothing yX1_bordersToNothing ∈ lw_tbl := mem_at 13 (by decide +kernel)
theorem wcX1_loopOver : Cond.code yX1_loopOver cX1_loopOver 4 (some .int) ∈ lw_tbl := mem_at 503 (by decide +kernel)
theorem wiX1_loopOver : Cond.instanceMethod yX1_loopOver ∈ lw_tbl := mem_at 502 (by decide +kernel)
theorem wlX1_loopOver : Cond.selects RX1 yX1_loopOver yX1_loopOver ∈ lw_tbl := mem_at 15 (by decide +kernel)
theorem wcX1_loops : Cond.code yX1_loops cX1_loops 5 (some .int) ∈ lw_tbl := mem_at 499 (by decide +kernel)
theorem wiX1_loops : Cond.instanceMethod yX1_loops ∈ lw_tbl := mem_at 498 (by decide +kernel)
theorem wlX1_loops : Cond.selects RX1 yX1_loops yX1_loops ∈ lw_tbl := mem_at 14 (by decide +kernel)
theorem wcX1_withLoop : Cond.code yX1_withLoop cX1_withLoop 4 (some .int) ∈ lw_tbl := mem_at 506 (by decide +kernel)
theorem wsX1_withLoop : Cond.static yX1_withLoop ∈ lw_tbl := mem_at 505 (by decide +kernel)
theorem wcX1_isOneSided : Cond.code yX1_isOneSided cX1_isOneSided 4 (some .boolean) ∈ lw_tbl := mem_at 510 (by decide +kernel)
theorem wiX1_isOneSided : Cond.instanceMethod yX1_isOneSided ∈ lw_tbl := mem_at 509 (by decide +kernel)
theorem wlX1_isOneSided : Cond.selects RX1 yX1_isOneSided yX1_isOneSided ∈ lw_tbl := mem_at 16 (by decide +kernel)
theorem wcX1_partsBeside : Cond.code yX1_partsBeside cX1_partsBeside 5 (some .int) ∈ lw_tbl := mem_at 514 (by decide +kernel)
theorem wiX1_partsBeside : Cond.instanceMethod yX1_partsBeside ∈ lw_tbl := mem_at 513 (by decide +kernel)
theorem wlX1_partsBeside : Cond.selects RX1 yX1_partsBeside yX1_partsBeside ∈ lw_tbl := mem_at 17 (by decide +kernel)
theorem wcX1_isFirstMeeting : Cond.code yX1_isFirstMeeting cX1_isFirstMeeting 4 (some .boolean) ∈ lw_tbl := mem_at 518 (by decide +kernel)
theorem wiX1_isFirstMeeting : Cond.instanceMethod yX1_isFirstMeeting ∈ lw_tbl := mem_at 517 (by decide +kernel)
theorem wlX1_isFirstMeeting : Cond.selects RX1 yX1_isFirstMeeting yX1_isFirstMeeting ∈ lw_tbl := mem_at 18 (by decide +kernel)
theorem wcX1_greatestDepth : Cond.code yX1_greatestDepth cX1_greatestDepth 4 (some .int) ∈ lw_tbl := mem_at 522 (by decide +kernel)
theorem wiX1_greatestDepth : Cond.instanceMethod yX1_greatestDepth ∈ lw_tbl := mem_at 521 (by decide +kernel)
theorem wlX1_greatestDepth : Cond.selects RX1 yX1_greatestDepth yX1_greatestDepth ∈ lw_tbl := mem_at 19 (by decide +kernel)
theorem wcX2_init : Cond.code yX2_init cX2_init 1 none ∈ lw_tbl := mem_at 61 (by decide +kernel)
theorem wiX2_init : Cond.instanceMethod yX2_init ∈ lw_tbl := mem_at 60 (by decide +kernel)
theorem wcX2_style : Cond.code yX2_style cX2_style 1 (some .int) ∈ lw_tbl := mem_at 257 (by decide +kernel)
theorem wiX2_style : Cond.instanceMethod yX2_style ∈ lw_tbl := mem_at 255 (by decide +kernel)
theorem wlX2_style : Cond.selects RX2 yX2_style yX2_style ∈ lw_tbl := mem_at 256 (by decide +kernel)
theorem wcX2_offset : Cond.code yX2_offset cX2_offset 1 (some .int) ∈ lw_tbl := mem_at 387 (by decide +kernel)
theorem wiX2_offset : Cond.instanceMethod yX2_offset ∈ lw_tbl := mem_at 385 (by decide +kernel)
theorem wlX2_offset : Cond.selects RX2 yX2_offset yX2_offset ∈ lw_tbl := mem_at 386 (by decide +kernel)
theorem wcX2_change : Cond.code yX2_change cX2_change 4 (some .boolean) ∈ lw_tbl := mem_at 233 (by decide +kernel)
theorem wiX2_change : Cond.instanceMethod yX2_change ∈ lw_tbl := mem_at 231 (by decide +kernel)
theorem wlX2_change : Cond.selects RX2 yX2_change yX2_change ∈ lw_tbl := mem_at 232 (by decide +kernel)
theorem wcX2_crossing : Cond.code yX2_crossing cX2_crossing 2 (some .int) ∈ lw_tbl := mem_at 268 (by decide +kernel)
theorem wiX2_crossing : Cond.instanceMethod yX2_crossing ∈ lw_tbl := mem_at 266 (by decide +kernel)
theorem wlX2_crossing : Cond.selects RX2 yX2_crossing yX2_crossing ∈ lw_tbl := mem_at 267 (by decide +kernel)
theorem wcX2_placeBeyond : Cond.code yX2_placeBeyond cX2_placeBeyond 3 (some .int) ∈ lw_tbl := mem_at 261 (by decide +kernel)
theorem wiX2_placeBeyond : Cond.instanceMethod yX2_placeBeyond ∈ lw_tbl := mem_at 259 (by decide +kernel)
theorem wlX2_placeBeyond : Cond.selects RX2 yX2_placeBeyond yX2_placeBeyond ∈ lw_tbl := mem_at 260 (by decide +kernel)
theorem wcX2_modulo : Cond.code yX2_modulo cX2_modulo 2 (some .int) ∈ lw_tbl := mem_at 264 (by decide +kernel)
theorem wsX2_modulo : Cond.static yX2_modulo ∈ lw_tbl := mem_at 263 (by decide +kernel)
theorem wcX3_init : Cond.code yX3_init cX3_init 1 none ∈ lw_tbl := mem_at 55 (by decide +kernel)
theorem wiX3_init : Cond.instanceMethod yX3_init ∈ lw_tbl := mem_at 54 (by decide +kernel)
theorem wcX3_columns : Cond.code yX3_columns cX3_columns 1 (some .int) ∈ lw_tbl := mem_at 362 (by decide +kernel)
theorem wiX3_columns : Cond.instanceMethod yX3_columns ∈ lw_tbl := mem_at 360 (by decide +kernel)
theorem wlX3_columns : Cond.selects RX3 yX3_columns yX3_columns ∈ lw_tbl := mem_at 361 (by decide +kernel)
theorem wcX3_rows : Cond.code yX3_rows cX3_rows 1 (some .int) ∈ lw_tbl := mem_at 366 (by decide +kernel)
theorem wiX3_rows : Cond.instanceMethod yX3_rows ∈ lw_tbl := mem_at 364 (by decide +kernel)
theorem wlX3_rows : Cond.selects RX3 yX3_rows yX3_rows ∈ lw_tbl := mem_at 365 (by decide +kernel)
theorem wcX3_tiles : Cond.code yX3_tiles cX3_tiles 1 (some .int) ∈ lw_tbl := mem_at 241 (by decide +kernel)
theorem wiX3_tiles : Cond.instanceMethod yX3_tiles ∈ lw_tbl := mem_at 239 (by decide +kernel)
theorem wlX3_tiles : Cond.selects RX3 yX3_tiles yX3_tiles ∈ lw_tbl := mem_at 240 (by decide +kernel)
theorem wcX3_sideSeam : Cond.code yX3_sideSeam cX3_sideSeam 1 (some (.object "SeamMap$Seam")) ∈ lw_tbl := mem_at 382 (by decide +kernel)
theorem wiX3_sideSeam : Cond.instanceMethod yX3_sideSeam ∈ lw_tbl := mem_at 380 (by decide +kernel)
theorem wlX3_sideSeam : Cond.selects RX3 yX3_sideSeam yX3_sideSeam ∈ lw_tbl := mem_at 381 (by decide +kernel)
theorem wcX3_endSeam : Cond.code yX3_endSeam cX3_endSeam 1 (some (.object "SeamMap$Seam")) ∈ lw_tbl := mem_at 391 (by decide +kernel)
theorem wiX3_endSeam : Cond.instanceMethod yX3_endSeam ∈ lw_tbl := mem_at 389 (by decide +kernel)
theorem wlX3_endSeam : Cond.selects RX3 yX3_endSeam yX3_endSeam ∈ lw_tbl := mem_at 390 (by decide +kernel)
theorem wcX3_has : Cond.code yX3_has cX3_has 2 (some .boolean) ∈ lw_tbl := mem_at 448 (by decide +kernel)
theorem wiX3_has : Cond.instanceMethod yX3_has ∈ lw_tbl := mem_at 446 (by decide +kernel)
theorem wlX3_has : Cond.selects RX3 yX3_has yX3_has ∈ lw_tbl := mem_at 447 (by decide +kernel)
theorem wcX3_next : Cond.code yX3_next cX3_next 3 (some .int) ∈ lw_tbl := mem_at 317 (by decide +kernel)
theorem wiX3_next : Cond.instanceMethod yX3_next ∈ lw_tbl := mem_at 315 (by decide +kernel)
theorem wlX3_next : Cond.selects RX3 yX3_next yX3_next ∈ lw_tbl := mem_at 316 (by decide +kernel)
theorem wcX3_crossing : Cond.code yX3_crossing cX3_crossing 3 (some .int) ∈ lw_tbl := mem_at 321 (by decide +kernel)
theorem wiX3_crossing : Cond.instanceMethod yX3_crossing ∈ lw_tbl := mem_at 319 (by decide +kernel)
theorem wlX3_crossing : Cond.selects RX3 yX3_crossing yX3_crossing ∈ lw_tbl := mem_at 320 (by decide +kernel)
theorem wcX3_openBorders : Cond.code yX3_openBorders cX3_openBorders 3 (some .int) ∈ lw_tbl := mem_at 399 (by decide +kernel)
theorem wiX3_openBorders : Cond.instanceMethod yX3_openBorders ∈ lw_tbl := mem_at 397 (by decide +kernel)
theorem wlX3_openBorders : Cond.selects RX3 yX3_openBorders yX3_openBorders ∈ lw_tbl := mem_at 398 (by decide +kernel)
theorem wcX3_begin : Cond.code yX3_begin cX3_begin 3 none ∈ lw_tbl := mem_at 229 (by decide +kernel)
theorem wiX3_begin : Cond.instanceMethod yX3_begin ∈ lw_tbl := mem_at 227 (by decide +kernel)
theorem wlX3_begin : Cond.selects RX3 yX3_begin yX3_begin ∈ lw_tbl := mem_at 228 (by decide +kernel)
theorem wcX3_changeSeam : Cond.code yX3_changeSeam cX3_changeSeam 5 (some .boolean) ∈ lw_tbl := mem_at 370 (by decide +kernel)
theorem wiX3_changeSeam : Cond.instanceMethod yX3_changeSeam ∈ lw_tbl := mem_at 368 (by decide +kernel)
theorem wlX3_changeSeam : Cond.selects RX3 yX3_changeSeam yX3_changeSeam ∈ lw_tbl := mem_at 369 (by decide +kernel)
theorem wcX3_joinTiles : Cond.code yX3_joinTiles cX3_joinTiles 2 none ∈ lw_tbl := mem_at 237 (by decide +kernel)
theorem wiX3_joinTiles : Cond.instanceMethod yX3_joinTiles ∈ lw_tbl := mem_at 236 (by decide +kernel)
theorem wlX3_joinTiles : Cond.selects RX3 yX3_joinTiles yX3_joinTiles ∈ lw_tbl := mem_at 1 (by decide +kernel)
theorem wcX3_joinInside : Cond.code yX3_joinInside cX3_joinInside 4 none ∈ lw_tbl := mem_at 245 (by decide +kernel)
theorem wiX3_joinInside : Cond.instanceMethod yX3_joinInside ∈ lw_tbl := mem_at 244 (by decide +kernel)
theorem wlX3_joinInside : Cond.selects RX3 yX3_joinInside yX3_joinInside ∈ lw_tbl := mem_at 2 (by decide +kernel)
theorem wcX3_joinSide : Cond.code yX3_joinSide cX3_joinSide 4 none ∈ lw_tbl := mem_at 253 (by decide +kernel)
theorem wiX3_joinSide : Cond.instanceMethod yX3_joinSide ∈ lw_tbl := mem_at 252 (by decide +kernel)
theorem wlX3_joinSide : Cond.selects RX3 yX3_joinSide yX3_joinSide ∈ lw_tbl := mem_at 4 (by decide +kernel)
theorem wcX3_joinEnd : Cond.code yX3_joinEnd cX3_joinEnd 4 none ∈ lw_tbl := mem_at 272 (by decide +kernel)
theorem wiX3_joinEnd : Cond.instanceMethod yX3_joinEnd ∈ lw_tbl := mem_at 271 (by decide +kernel)
theorem wlX3_joinEnd : Cond.selects RX3 yX3_joinEnd yX3_joinEnd ∈ lw_tbl := mem_at 5 (by decide +kernel)
theorem wcX3_join : Cond.code yX3_join cX3_join 7 none ∈ lw_tbl := mem_at 249 (by decide +kernel)
theorem wiX3_join : Cond.instanceMethod yX3_join ∈ lw_tbl := mem_at 248 (by decide +kernel)
theorem wlX3_join : Cond.selects RX3 yX3_join yX3_join ∈ lw_tbl := mem_at 3 (by decide +kernel)
theorem wcX4_init : Cond.code yX4_init cX4_init 1 none ∈ lw_tbl := mem_at 129 (by decide +kernel)
theorem wiX4_init : Cond.instanceMethod yX4_init ∈ lw_tbl := mem_at 128 (by decide +kernel)
theorem wcX4_length : Cond.code yX4_length cX4_length 1 (some .int) ∈ lw_tbl := mem_at 653 (by decide +kernel)
theorem wiX4_length : Cond.instanceMethod yX4_length ∈ lw_tbl := mem_at 651 (by decide +kernel)
theorem wlX4_length : Cond.selects RX4 yX4_length yX4_length ∈ lw_tbl := mem_at 652 (by decide +kernel)
theorem wcX4_at : Cond.code yX4_at cX4_at 2 (some .char) ∈ lw_tbl := mem_at 657 (by decide +kernel)
theorem wiX4_at : Cond.instanceMethod yX4_at ∈ lw_tbl := mem_at 655 (by decide +kernel)
theorem wlX4_at : Cond.selects RX4 yX4_at yX4_at ∈ lw_tbl := mem_at 656 (by decide +kernel)
theorem wcX4_append : Cond.code yX4_append cX4_append 2 (some .int) ∈ lw_tbl := mem_at 629 (by decide +kernel)
theorem wiX4_append : Cond.instanceMethod yX4_append ∈ lw_tbl := mem_at 627 (by decide +kernel)
theorem wlX4_append : Cond.selects RX4 yX4_append yX4_append ∈ lw_tbl := mem_at 628 (by decide +kernel)
theorem wcX4_empty : Cond.code yX4_empty cX4_empty 2 (some .int) ∈ lw_tbl := mem_at 621 (by decide +kernel)
theorem wiX4_empty : Cond.instanceMethod yX4_empty ∈ lw_tbl := mem_at 619 (by decide +kernel)
theorem wlX4_empty : Cond.selects RX4 yX4_empty yX4_empty ∈ lw_tbl := mem_at 620 (by decide +kernel)
theorem wcX4_faultAsTiles : Cond.code yX4_faultAsTiles cX4_faultAsTiles 6 (some .int) ∈ lw_tbl := mem_at 719 (by decide +kernel)
theorem wiX4_faultAsTiles : Cond.instanceMethod yX4_faultAsTiles ∈ lw_tbl := mem_at 717 (by decide +kernel)
theorem wlX4_faultAsTiles : Cond.selects RX4 yX4_faultAsTiles yX4_faultAsTiles ∈ lw_tbl := mem_at 718 (by decide +kernel)
theorem wcX4_isFitting : Cond.code yX4_isFitting cX4_isFitting 2 (some .boolean) ∈ lw_tbl := mem_at 722 (by decide +kernel)
theorem wsX4_isFitting : Cond.static yX4_isFitting ∈ lw_tbl := mem_at 721 (by decide +kernel)
theorem wcX4_kindAt : Cond.code yX4_kindAt cX4_kindAt 4 (some .int) ∈ lw_tbl := mem_at 730 (by decide +kernel)
theorem wiX4_kindAt : Cond.instanceMethod yX4_kindAt ∈ lw_tbl := mem_at 728 (by decide +kernel)
theorem wlX4_kindAt : Cond.selects RX4 yX4_kindAt yX4_kindAt ∈ lw_tbl := mem_at 729 (by decide +kernel)
theorem wcX4_faultAsWalk : Cond.code yX4_faultAsWalk cX4_faultAsWalk 3 (some .int) ∈ lw_tbl := mem_at 637 (by decide +kernel)
theorem wiX4_faultAsWalk : Cond.instanceMethod yX4_faultAsWalk ∈ lw_tbl := mem_at 635 (by decide +kernel)
theorem wlX4_faultAsWalk : Cond.selects RX4 yX4_faultAsWalk yX4_faultAsWalk ∈ lw_tbl := mem_at 636 (by decide +kernel)
theorem wcX5_init : Cond.code yX5_init cX5_init 1 none ∈ lw_tbl := mem_at 100 (by decide +kernel)
theorem wiX5_init : Cond.instanceMethod yX5_init ∈ lw_tbl := mem_at 99 (by decide +kernel)
theorem wcX5_number : Cond.code yX5_number cX5_number 1 (some .int) ∈ lw_tbl := mem_at 305 (by decide +kernel)
theorem wiX5_number : Cond.instanceMethod yX5_number ∈ lw_tbl := mem_at 303 (by decide +kernel)
theorem wlX5_number : Cond.selects RX5 yX5_number yX5_number ∈ lw_tbl := mem_at 304 (by decide +kernel)
theorem wcX5_at : Cond.code yX5_at cX5_at 2 (some .int) ∈ lw_tbl := mem_at 309 (by decide +kernel)
theorem wiX5_at : Cond.instanceMethod yX5_at ∈ lw_tbl := mem_at 307 (by decide +kernel)
theorem wlX5_at : Cond.selects RX5 yX5_at yX5_at ∈ lw_tbl := mem_at 308 (by decide +kernel)
theorem wcX5_clear : Cond.code yX5_clear cX5_clear 1 none ∈ lw_tbl := mem_at 293 (by decide +kernel)
theorem wiX5_clear : Cond.instanceMethod yX5_clear ∈ lw_tbl := mem_at 291 (by decide +kernel)
theorem wlX5_clear : Cond.selects RX5 yX5_clear yX5_clear ∈ lw_tbl := mem_at 292 (by decide +kernel)
theorem wcX5_add : Cond.code yX5_add cX5_add 2 none ∈ lw_tbl := mem_at 301 (by decide +kernel)
theorem wiX5_add : Cond.instanceMethod yX5_add ∈ lw_tbl := mem_at 299 (by decide +kernel)
theorem wlX5_add : Cond.selects RX5 yX5_add yX5_add ∈ lw_tbl := mem_at 300 (by decide +kernel)
theorem wcX5_takeOut : Cond.code yX5_takeOut cX5_takeOut 3 (some .int) ∈ lw_tbl := mem_at 561 (by decide +kernel)
theorem wiX5_takeOut : Cond.instanceMethod yX5_takeOut ∈ lw_tbl := mem_at 559 (by decide +kernel)
theorem wlX5_takeOut : Cond.selects RX5 yX5_takeOut yX5_takeOut ∈ lw_tbl := mem_at 560 (by decide +kernel)
theorem wcX6_init : Cond.code yX6_init cX6_init 2 none ∈ lw_tbl := mem_at 143 (by decide +kernel)
theorem wiX6_init : Cond.instanceMethod yX6_init ∈ lw_tbl := mem_at 142 (by decide +kernel)
theorem wcX6_follow : Cond.code yX6_follow cX6_follow 6 none ∈ lw_tbl := mem_at 641 (by decide +kernel)
theorem wiX6_follow : Cond.instanceMethod yX6_follow ∈ lw_tbl := mem_at 639 (by decide +kernel)
theorem wlX6_follow : Cond.selects RX6 yX6_follow yX6_follow ∈ lw_tbl := mem_at 640 (by decide +kernel)
theorem wcX6_begin : Cond.code yX6_begin cX6_begin 4 none ∈ lw_tbl := mem_at 645 (by decide +kernel)
theorem wiX6_begin : Cond.instanceMethod yX6_begin ∈ lw_tbl := mem_at 644 (by decide +kernel)
theorem wlX6_begin : Cond.selects RX6 yX6_begin yX6_begin ∈ lw_tbl := mem_at 25 (by decide +kernel)
theorem wcX6_obey : Cond.code yX6_obey cX6_obey 2 (some .boolean) ∈ lw_tbl := mem_at 661 (by decide +kernel)
theorem wiX6_obey : Cond.instanceMethod yX6_obey ∈ lw_tbl := mem_at 660 (by decide +kernel)
theorem wlX6_obey : Cond.selects RX6 yX6_obey yX6_obey ∈ lw_tbl := mem_at 27 (by decide +kernel)
theorem wcX6_step : Cond.code yX6_step cX6_step 2 (some .boolean) ∈ lw_tbl := mem_at 665 (by decide +kernel)
theorem wiX6_step : Cond.instanceMethod yX6_step ∈ lw_tbl := mem_at 664 (by decide +kernel)
theorem wlX6_step : Cond.selects RX6 yX6_step yX6_step ∈ lw_tbl := mem_at 28 (by decide +kernel)
theorem wcX6_enter : Cond.code yX6_enter cX6_enter 2 none ∈ lw_tbl := mem_at 649 (by decide +kernel)
theorem wiX6_enter : Cond.instanceMethod yX6_enter ∈ lw_tbl := mem_at 648 (by decide +kernel)
theorem wlX6_enter : Cond.selects RX6 yX6_enter yX6_enter ∈ lw_tbl := mem_at 26 (by decide +kernel)
theorem wcX6_turn : Cond.code yX6_turn cX6_turn 3 none ∈ lw_tbl := mem_at 671 (by decide +kernel)
theorem wiX6_turn : Cond.instanceMethod yX6_turn ∈ lw_tbl := mem_at 670 (by decide +kernel)
theorem wlX6_turn : Cond.selects RX6 yX6_turn yX6_turn ∈ lw_tbl := mem_at 29 (by decide +kernel)
theorem wcX6_tell : Cond.code yX6_tell cX6_tell 2 (some .int) ∈ lw_tbl := mem_at 675 (by decide +kernel)
theorem wiX6_tell : Cond.instanceMethod yX6_tell ∈ lw_tbl := mem_at 673 (by decide +kernel)
theorem wlX6_tell : Cond.selects RX6 yX6_tell yX6_tell ∈ lw_tbl := mem_at 674 (by decide +kernel)
theorem wcX7_init : Cond.code yX7_init cX7_init 3 none ∈ lw_tbl := mem_at 94 (by decide +kernel)
theorem wiX7_init : Cond.instanceMethod yX7_init ∈ lw_tbl := mem_at 93 (by decide +kernel)
theorem wcX7_levelWeights : Cond.code yX7_levelWeights cX7_levelWeights 2 none ∈ lw_tbl := mem_at 276 (by decide +kernel)
theorem wiX7_levelWeights : Cond.instanceMethod yX7_levelWeights ∈ lw_tbl := mem_at 274 (by decide +kernel)
theorem wlX7_levelWeights : Cond.selects RX7 yX7_levelWeights yX7_levelWeights ∈ lw_tbl := mem_at 275 (by decide +kernel)
theorem wcX7_changeWeight : Cond.code yX7_changeWeight cX7_changeWeight 4 (some .int) ∈ lw_tbl := mem_at 429 (by decide +kernel)
theorem wiX7_changeWeight : Cond.instanceMethod yX7_changeWeight ∈ lw_tbl := mem_at 427 (by decide +kernel)
theorem wlX7_changeWeight : Cond.selects RX7 yX7_changeWeight yX7_changeWeight ∈ lw_tbl := mem_at 428 (by decide +kernel)
theorem wcX7_lengthTo : Cond.code yX7_lengthTo cX7_lengthTo 2 (some .int) ∈ lw_tbl := mem_at 574 (by decide +kernel)
theorem wiX7_lengthTo : Cond.instanceMethod yX7_lengthTo ∈ lw_tbl := mem_at 572 (by decide +kernel)
theorem wlX7_lengthTo : Cond.selects RX7 yX7_lengthTo yX7_lengthTo ∈ lw_tbl := mem_at 573 (by decide +kernel)
theorem wcX7_measureFrom : Cond.code yX7_measureFrom cX7_measureFrom 3 none ∈ lw_tbl := mem_at 544 (by decide +kernel)
theorem wiX7_measureFrom : Cond.instanceMethod yX7_measureFrom ∈ lw_tbl := mem_at 542 (by decide +kernel)
theorem wlX7_measureFrom : Cond.selects RX7 yX7_measureFrom yX7_measureFrom ∈ lw_tbl := mem_at 543 (by decide +kernel)
theorem wcX7_takeNearestOpen : Cond.code yX7_takeNearestOpen cX7_takeNearestOpen 3 (some .int) ∈ lw_tbl := mem_at 556 (by decide +kernel)
theorem wiX7_takeNearestOpen : Cond.instanceMethod yX7_takeNearestOpen ∈ lw_tbl := mem_at 555 (by decide +kernel)
theorem wlX7_takeNearestOpen : Cond.selects RX7 yX7_takeNearestOpen yX7_takeNearestOpen ∈ lw_tbl := mem_at 21 (by decide +kernel)
theorem wcX7_spread : Cond.code yX7_spread cX7_spread 4 none ∈ lw_tbl := mem_at 565 (by decide +kernel)
theorem wiX7_spread : Cond.instanceMethod yX7_spread ∈ lw_tbl := mem_at 564 (by decide +kernel)
theorem wlX7_spread : Cond.selects RX7 yX7_spread yX7_spread ∈ lw_tbl := mem_at 22 (by decide +kernel)
theorem wcX7_reach : Cond.code yX7_reach cX7_reach 3 none ∈ lw_tbl := mem_at 550 (by decide +kernel)
theorem wiX7_reach : Cond.instanceMethod yX7_reach ∈ lw_tbl := mem_at 549 (by decide +kernel)
theorem wlX7_reach : Cond.selects RX7 yX7_reach yX7_reach ∈ lw_tbl := mem_at 20 (by decide +kernel)
theorem wcX7_stepLength : Cond.code yX7_stepLength cX7_stepLength 6 (some .int) ∈ lw_tbl := mem_at 569 (by decide +kernel)
theorem wiX7_stepLength : Cond.instanceMethod yX7_stepLength ∈ lw_tbl := mem_at 568 (by decide +kernel)
theorem wlX7_stepLength : Cond.selects RX7 yX7_stepLength yX7_stepLength ∈ lw_tbl := mem_at 23 (by decide +kernel)
theorem wcX7_routeTile : Cond.code yX7_routeTile cX7_routeTile 6 (some .int) ∈ lw_tbl := mem_at 582 (by decide +kernel)
theorem wiX7_routeTile : Cond.instanceMethod yX7_routeTile ∈ lw_tbl := mem_at 580 (by decide +kernel)
theorem wlX7_routeTile : Cond.selects RX7 yX7_routeTile yX7_routeTile ∈ lw_tbl := mem_at 581 (by decide +kernel)
theorem wcX7_nextOnRoute : Cond.code yX7_nextOnRoute cX7_nextOnRoute 5 (some .int) ∈ lw_tbl := mem_at 586 (by decide +kernel)
theorem wiX7_nextOnRoute : Cond.instanceMethod yX7_nextOnRoute ∈ lw_tbl := mem_at 585 (by decide +kernel)
theorem wlX7_nextOnRoute : Cond.selects RX7 yX7_nextOnRoute yX7_nextOnRoute ∈ lw_tbl := mem_at 24 (by decide +kernel)
theorem wcX7_farthestTile : Cond.code yX7_farthestTile cX7_farthestTile 4 (some .int) ∈ lw_tbl := mem_at 594 (by decide +kernel)
theorem wiX7_farthestTile : Cond.instanceMethod yX7_farthestTile ∈ lw_tbl := mem_at 592 (by decide +kernel)
theorem wlX7_farthestTile : Cond.selects RX7 yX7_farthestTile yX7_farthestTile ∈ lw_tbl := mem_at 593 (by decide +kernel)
theorem wcX7_tilesUpTo : Cond.code yX7_tilesUpTo cX7_tilesUpTo 4 (some .int) ∈ lw_tbl := mem_at 602 (by decide +kernel)
theorem wiX7_tilesUpTo : Cond.instanceMethod yX7_tilesUpTo ∈ lw_tbl := mem_at 600 (by decide +kernel)
theorem wlX7_tilesUpTo : Cond.selects RX7 yX7_tilesUpTo yX7_tilesUpTo ∈ lw_tbl := mem_at 601 (by decide +kernel)
theorem wcX7_nearestOf : Cond.code yX7_nearestOf cX7_nearestOf 4 (some .int) ∈ lw_tbl := mem_at 610 (by decide +kernel)
theorem wiX7_nearestOf : Cond.instanceMethod yX7_nearestOf ∈ lw_tbl := mem_at 608 (by decide +kernel)
theorem wlX7_nearestOf : Cond.selects RX7 yX7_nearestOf yX7_nearestOf ∈ lw_tbl := mem_at 609 (by decide +kernel)
theorem wcX8_init : Cond.code yX8_init cX8_init 1 none ∈ lw_tbl := mem_at 47 (by decide +kernel)
theorem wiX8_init : Cond.instanceMethod yX8_init ∈ lw_tbl := mem_at 46 (by decide +kernel)
theorem wcX8_reset : Cond.code yX8_reset cX8_reset 3 (some .int) ∈ lw_tbl := mem_at 350 (by decide +kernel)
theorem wiX8_reset : Cond.instanceMethod yX8_reset ∈ lw_tbl := mem_at 348 (by decide +kernel)
theorem wlX8_reset : Cond.selects RX8 yX8_reset yX8_reset ∈ lw_tbl := mem_at 349 (by decide +kernel)
theorem wcX8_setSeam : Cond.code yX8_setSeam cX8_setSeam 5 (some .int) ∈ lw_tbl := mem_at 358 (by decide +kernel)
theorem wiX8_setSeam : Cond.instanceMethod yX8_setSeam ∈ lw_tbl := mem_at 356 (by decide +kernel)
theorem wlX8_setSeam : Cond.selects RX8 yX8_setSeam yX8_setSeam ∈ lw_tbl := mem_at 357 (by decide +kernel)
theorem wcX8_value : Cond.code yX8_value cX8_value 2 (some .int) ∈ lw_tbl := mem_at 378 (by decide +kernel)
theorem wiX8_value : Cond.instanceMethod yX8_value ∈ lw_tbl := mem_at 376 (by decide +kernel)
theorem wlX8_value : Cond.selects RX8 yX8_value yX8_value ∈ lw_tbl := mem_at 377 (by decide +kernel)
theorem wcX8_kind : Cond.code yX8_kind cX8_kind 2 (some .int) ∈ lw_tbl := mem_at 475 (by decide +kernel)
theorem wiX8_kind : Cond.instanceMethod yX8_kind ∈ lw_tbl := mem_at 473 (by decide +kernel)
theorem wlX8_kind : Cond.selects RX8 yX8_kind yX8_kind ∈ lw_tbl := mem_at 474 (by decide +kernel)
theorem wcX8_neighbour : Cond.code yX8_neighbour cX8_neighbour 3 (some .int) ∈ lw_tbl := mem_at 444 (by decide +kernel)
theorem wiX8_neighbour : Cond.instanceMethod yX8_neighbour ∈ lw_tbl := mem_at 442 (by decide +kernel)
theorem wlX8_neighbour : Cond.selects RX8 yX8_neighbour yX8_neighbour ∈ lw_tbl := mem_at 443 (by decide +kernel)
theorem wcX8_type : Cond.code yX8_type cX8_type 2 (some .int) ∈ lw_tbl := mem_at 625 (by decide +kernel)
theorem wiX8_type : Cond.instanceMethod yX8_type ∈ lw_tbl := mem_at 623 (by decide +kernel)
theorem wlX8_type : Cond.selects RX8 yX8_type yX8_type ∈ lw_tbl := mem_at 624 (by decide +kernel)
theorem wcX8_clearText : Cond.code yX8_clearText cX8_clearText 1 (some .int) ∈ lw_tbl := mem_at 617 (by decide +kernel)
theorem wiX8_clearText : Cond.instanceMethod yX8_clearText ∈ lw_tbl := mem_at 615 (by decide +kernel)
theorem wlX8_clearText : Cond.selects RX8 yX8_clearText yX8_clearText ∈ lw_tbl := mem_at 616 (by decide +kernel)
theorem wcX8_readTiles : Cond.code yX8_readTiles cX8_readTiles 3 (some .int) ∈ lw_tbl := mem_at 715 (by decide +kernel)
theorem wiX8_readTiles : Cond.instanceMethod yX8_readTiles ∈ lw_tbl := mem_at 713 (by decide +kernel)
theorem wlX8_readTiles : Cond.selects RX8 yX8_readTiles yX8_readTiles ∈ lw_tbl := mem_at 714 (by decide +kernel)
theorem wcX8_walk : Cond.code yX8_walk cX8_walk 5 (some .int) ∈ lw_tbl := mem_at 633 (by decide +kernel)
theorem wiX8_walk : Cond.instanceMethod yX8_walk ∈ lw_tbl := mem_at 631 (by decide +kernel)
theorem wlX8_walk : Cond.selects RX8 yX8_walk yX8_walk ∈ lw_tbl := mem_at 632 (by decide +kernel)
theorem wcX8_setTile : Cond.code yX8_setTile cX8_setTile 3 (some .int) ∈ lw_tbl := mem_at 691 (by decide +kernel)
theorem wiX8_setTile : Cond.instanceMethod yX8_setTile ∈ lw_tbl := mem_at 689 (by decide +kernel)
theorem wlX8_setTile : Cond.selects RX8 yX8_setTile yX8_setTile ∈ lw_tbl := mem_at 690 (by decide +kernel)
theorem wcX8_fill : Cond.code yX8_fill cX8_fill 3 (some .int) ∈ lw_tbl := mem_at 703 (by decide +kernel)
theorem wiX8_fill : Cond.instanceMethod yX8_fill ∈ lw_tbl := mem_at 701 (by decide +kernel)
theorem wlX8_fill : Cond.selects RX8 yX8_fill yX8_fill ∈ lw_tbl := mem_at 702 (by decide +kernel)
theorem wcX8_undo : Cond.code yX8_undo cX8_undo 1 (some .int) ∈ lw_tbl := mem_at 407 (by decide +kernel)
theorem wiX8_undo : Cond.instanceMethod yX8_undo ∈ lw_tbl := mem_at 405 (by decide +kernel)
theorem wlX8_undo : Cond.selects RX8 yX8_undo yX8_undo ∈ lw_tbl := mem_at 406 (by decide +kernel)
theorem wcX8_label : Cond.code yX8_label cX8_label 2 (some .int) ∈ lw_tbl := mem_at 467 (by decide +kernel)
theorem wiX8_label : Cond.instanceMethod yX8_label ∈ lw_tbl := mem_at 465 (by decide +kernel)
theorem wlX8_label : Cond.selects RX8 yX8_label yX8_label ∈ lw_tbl := mem_at 466 (by decide +kernel)
theorem wcX8_part : Cond.code yX8_part cX8_part 2 (some .int) ∈ lw_tbl := mem_at 459 (by decide +kernel)
theorem wiX8_part : Cond.instanceMethod yX8_part ∈ lw_tbl := mem_at 457 (by decide +kernel)
theorem wlX8_part : Cond.selects RX8 yX8_part yX8_part ∈ lw_tbl := mem_at 458 (by decide +kernel)
theorem wcX8_ofPart : Cond.code yX8_ofPart cX8_ofPart 3 (some .int) ∈ lw_tbl := mem_at 479 (by decide +kernel)
theorem wiX8_ofPart : Cond.instanceMethod yX8_ofPart ∈ lw_tbl := mem_at 477 (by decide +kernel)
theorem wlX8_ofPart : Cond.selects RX8 yX8_ofPart yX8_ofPart ∈ lw_tbl := mem_at 478 (by decide +kernel)
theorem wcX8_greatestPart : Cond.code yX8_greatestPart cX8_greatestPart 2 (some .int) ∈ lw_tbl := mem_at 529 (by decide +kernel)
theorem wiX8_greatestPart : Cond.instanceMethod yX8_greatestPart ∈ lw_tbl := mem_at 527 (by decide +kernel)
theorem wlX8_greatestPart : Cond.selects RX8 yX8_greatestPart yX8_greatestPart ∈ lw_tbl := mem_at 528 (by decide +kernel)
theorem wcX8_partsIf : Cond.code yX8_partsIf cX8_partsIf 4 (some .int) ∈ lw_tbl := mem_at 687 (by decide +kernel)
theorem wiX8_partsIf : Cond.instanceMethod yX8_partsIf ∈ lw_tbl := mem_at 685 (by decide +kernel)
theorem wlX8_partsIf : Cond.selects RX8 yX8_partsIf yX8_partsIf ∈ lw_tbl := mem_at 686 (by decide +kernel)
theorem wcX8_setWeight : Cond.code yX8_setWeight cX8_setWeight 3 (some .int) ∈ lw_tbl := mem_at 422 (by decide +kernel)
theorem wiX8_setWeight : Cond.instanceMethod yX8_setWeight ∈ lw_tbl := mem_at 420 (by decide +kernel)
theorem wlX8_setWeight : Cond.selects RX8 yX8_setWeight yX8_setWeight ∈ lw_tbl := mem_at 421 (by decide +kernel)
theorem wcX8_distance : Cond.code yX8_distance cX8_distance 3 (some .int) ∈ lw_tbl := mem_at 540 (by decide +kernel)
theorem wiX8_distance : Cond.instanceMethod yX8_distance ∈ lw_tbl := mem_at 538 (by decide +kernel)
theorem wlX8_distance : Cond.selects RX8 yX8_distance yX8_distance ∈ lw_tbl := mem_at 539 (by decide +kernel)
theorem wcX8_route : Cond.code yX8_route cX8_route 4 (some .int) ∈ lw_tbl := mem_at 578 (by decide +kernel)
theorem wiX8_route : Cond.instanceMethod yX8_route ∈ lw_tbl := mem_at 576 (by decide +kernel)
theorem wlX8_route : Cond.selects RX8 yX8_route yX8_route ∈ lw_tbl := mem_at 577 (by decide +kernel)
theorem wcX8_farthest : Cond.code yX8_farthest cX8_farthest 2 (some .int) ∈ lw_tbl := mem_at 590 (by decide +kernel)
theorem wiX8_farthest : Cond.instanceMethod yX8_farthest ∈ lw_tbl := mem_at 588 (by decide +kernel)
theorem wlX8_farthest : Cond.selects RX8 yX8_farthest yX8_farthest ∈ lw_tbl := mem_at 589 (by decide +kernel)
theorem wcX8_within : Cond.code yX8_within cX8_within 3 (some .int) ∈ lw_tbl := mem_at 598 (by decide +kernel)
theorem wiX8_within : Cond.instanceMethod yX8_within ∈ lw_tbl := mem_at 596 (by decide +kernel)
theorem wlX8_within : Cond.selects RX8 yX8_within yX8_within ∈ lw_tbl := mem_at 597 (by decide +kernel)
theorem wcX8_nearest : Cond.code yX8_nearest cX8_nearest 3 (some .int) ∈ lw_tbl := mem_at 606 (by decide +kernel)
theorem wiX8_nearest : Cond.instanceMethod yX8_nearest ∈ lw_tbl := mem_at 604 (by decide +kernel)
theorem wlX8_nearest : Cond.selects RX8 yX8_nearest yX8_nearest ∈ lw_tbl := mem_at 605 (by decide +kernel)
theorem wcX8_isSize : Cond.code yX8_isSize cX8_isSize 1 (some .boolean) ∈ lw_tbl := mem_at 353 (by decide +kernel)
theorem wsX8_isSize : Cond.static yX8_isSize ∈ lw_tbl := mem_at 352 (by decide +kernel)
theorem wcX8_isKind : Cond.code yX8_isKind cX8_isKind 1 (some .boolean) ∈ lw_tbl := mem_at 425 (by decide +kernel)
theorem wsX8_isKind : Cond.static yX8_isKind ∈ lw_tbl := mem_at 424 (by decide +kernel)
theorem wcX8_isDirection : Cond.code yX8_isDirection cX8_isDirection 1 (some .boolean) ∈ lw_tbl := mem_at 451 (by decide +kernel)
theorem wsX8_isDirection : Cond.static yX8_isDirection ∈ lw_tbl := mem_at 450 (by decide +kernel)
theorem wcX8_beginAnew : Cond.code yX8_beginAnew cX8_beginAnew 4 none ∈ lw_tbl := mem_at 225 (by decide +kernel)
theorem wiX8_beginAnew : Cond.instanceMethod yX8_beginAnew ∈ lw_tbl := mem_at 224 (by decide +kernel)
theorem wlX8_beginAnew : Cond.selects RX8 yX8_beginAnew yX8_beginAnew ∈ lw_tbl := mem_at 0 (by decide +kernel)
theorem wcX8_repairParts : Cond.code yX8_repairParts cX8_repairParts 2 none ∈ lw_tbl := mem_at 374 (by decide +kernel)
theorem wiX8_repairParts : Cond.instanceMethod yX8_repairParts ∈ lw_tbl := mem_at 373 (by decide +kernel)
theorem wlX8_repairParts : Cond.selects RX8 yX8_repairParts yX8_repairParts ∈ lw_tbl := mem_at 9 (by decide +kernel)
theorem wcX8_takeKindsFromText : Cond.code yX8_takeKindsFromText cX8_takeKindsFromText 6 (some .int) ∈ lw_tbl := mem_at 726 (by decide +kernel)
theorem wiX8_takeKindsFromText : Cond.instanceMethod yX8_takeKindsFromText ∈ lw_tbl := mem_at 725 (by decide +kernel)
theorem wlX8_takeKindsFromText : Cond.selects RX8 yX8_takeKindsFromText yX8_takeKindsFromText ∈ lw_tbl := mem_at 31 (by decide +kernel)
theorem wcX8_giveKindToPart : Cond.code yX8_giveKindToPart cX8_giveKindToPart 4 none ∈ lw_tbl := mem_at 707 (by decide +kernel)
theorem wiX8_giveKindToPart : Cond.instanceMethod yX8_giveKindToPart ∈ lw_tbl := mem_at 706 (by decide +kernel)
theorem wlX8_giveKindToPart : Cond.selects RX8 yX8_giveKindToPart yX8_giveKindToPart ∈ lw_tbl := mem_at 30 (by decide +kernel)
theorem wcL_cell : Cond.code yL_cell cL_cell 2 (some .int) ∈ lw_tbl := mem_at 432 (by decide +kernel)
theorem wsL_cell : Cond.static yL_cell ∈ lw_tbl := mem_at 431 (by decide +kernel)
theorem wcL_low : Cond.code yL_low cL_low 2 (some .int) ∈ lw_tbl := mem_at 436 (by decide +kernel)
theorem wsL_low : Cond.static yL_low ∈ lw_tbl := mem_at 435 (by decide +kernel)
theorem wcL_steps : Cond.code yL_steps cL_steps 6 (some .boolean) ∈ lw_tbl := mem_at 440 (by decide +kernel)
theorem wsL_steps : Cond.static yL_steps ∈ lw_tbl := mem_at 439 (by decide +kernel)
set_option maxRecDepth 100000 in
theorem wcL_parts : Cond.code yL_parts cL_parts 14 (some .boolean) ∈ lw_tbl := mem_at 455 rfl
theorem wsL_parts : Cond.static yL_parts ∈ lw_tbl := mem_at 454 (by decide +kernel)
theorem wcL_greatest : Cond.code yL_greatest cL_greatest 5 (some .boolean) ∈ lw_tbl := mem_at 525 (by decide +kernel)
theorem wsL_greatest : Cond.static yL_greatest ∈ lw_tbl := mem_at 524 (by decide +kernel)
set_option maxRecDepth 100000 in
theorem wcL_distances : Cond.code yL_distances cL_distances 17 (some .boolean) ∈ lw_tbl := mem_at 536 rfl
theorem wsL_distances : Cond.static yL_distances ∈ lw_tbl := mem_at 535 (by decide +kernel)
theorem wcL_print : Cond.code yL_print cL_print 4 (some .long) ∈ lw_tbl := mem_at 681 (by decide +kernel)
theorem wsL_print : Cond.static yL_print ∈ lw_tbl := mem_at 680 (by decide +kernel)
set_option maxRecDepth 100000 in
theorem wcL_walks : Cond.code yL_walks cL_walks 23 (some .boolean) ∈ lw_tbl := mem_at 613 rfl
theorem wsL_walks : Cond.static yL_walks ∈ lw_tbl := mem_at 612 (by decide +kernel)
set_option maxRecDepth 100000 in
theorem wcL_edits : Cond.code yL_edits cL_edits 15 (some .int) ∈ lw_tbl := mem_at 678 rfl
theorem wsL_edits : Cond.static yL_edits ∈ lw_tbl := mem_at 677 (by decide +kernel)
set_option maxRecDepth 100000 in
theorem wcL_errors : Cond.code yL_errors cL_errors 4 (some .boolean) ∈ lw_tbl := mem_at 733 rfl
theorem wsL_errors : Cond.static yL_errors ∈ lw_tbl := mem_at 732 (by decide +kernel)
theorem wnX0 : Cond.initialized RX0 ∈ lw_tbl := mem_at 40 (by decide +kernel)
theorem wnX1 : Cond.initialized RX1 ∈ lw_tbl := mem_at 41 (by decide +kernel)
theorem wnX2 : Cond.initialized RX2 ∈ lw_tbl := mem_at 35 (by decide +kernel)
theorem wnX3 : Cond.initialized RX3 ∈ lw_tbl := mem_at 34 (by decide +kernel)
theorem wnX4 : Cond.initialized RX4 ∈ lw_tbl := mem_at 38 (by decide +kernel)
theorem wnX5 : Cond.initialized RX5 ∈ lw_tbl := mem_at 37 (by decide +kernel)
theorem wnX6 : Cond.initialized RX6 ∈ lw_tbl := mem_at 39 (by decide +kernel)
theorem wnX7 : Cond.initialized RX7 ∈ lw_tbl := mem_at 36 (by decide +kernel)
theorem wnX8 : Cond.initialized RX8 ∈ lw_tbl := mem_at 33 (by decide +kernel)
theorem mkX8_22 : Cond.methodLink RX8 22 yX7_init ∈ lw_tbl := mem_at 92 (by decide +kernel)
theorem mkX8_38 : Cond.methodLink RX8 38 yX6_init ∈ lw_tbl := mem_at 141 (by decide +kernel)
theorem mkX8_54 : Cond.methodLink RX8 54 yX1_init ∈ lw_tbl := mem_at 188 (by decide +kernel)
theorem mkX8_62 : Cond.methodLink RX8 62 yX8_beginAnew ∈ lw_tbl := mem_at 222 (by decide +kernel)
theorem mkX8_66 : Cond.methodLink RX8 66 yX8_isSize ∈ lw_tbl := mem_at 351 (by decide +kernel)
theorem mkX8_70 : Cond.methodLink RX8 70 yX3_tiles ∈ lw_tbl := mem_at 354 (by decide +kernel)
theorem mkX8_74 : Cond.methodLink RX8 74 yX3_columns ∈ lw_tbl := mem_at 359 (by decide +kernel)
theorem mkX8_77 : Cond.methodLink RX8 77 yX3_rows ∈ lw_tbl := mem_at 363 (by decide +kernel)
theorem mkX8_80 : Cond.methodLink RX8 80 yX3_changeSeam ∈ lw_tbl := mem_at 367 (by decide +kernel)
theorem mkX8_84 : Cond.methodLink RX8 84 yX8_repairParts ∈ lw_tbl := mem_at 371 (by decide +kernel)
theorem mkX8_87 : Cond.methodLink RX8 87 yX3_sideSeam ∈ lw_tbl := mem_at 379 (by decide +kernel)
theorem mkX8_91 : Cond.methodLink RX8 91 yX2_style ∈ lw_tbl := mem_at 383 (by decide +kernel)
theorem mkX8_96 : Cond.methodLink RX8 96 yX2_offset ∈ lw_tbl := mem_at 384 (by decide +kernel)
theorem mkX8_99 : Cond.methodLink RX8 99 yX3_endSeam ∈ lw_tbl := mem_at 388 (by decide +kernel)
theorem mkX8_102 : Cond.methodLink RX8 102 yX1_number ∈ lw_tbl := mem_at 392 (by decide +kernel)
theorem mkX8_105 : Cond.methodLink RX8 105 yX3_openBorders ∈ lw_tbl := mem_at 396 (by decide +kernel)
theorem mkX8_108 : Cond.methodLink RX8 108 yX0_size ∈ lw_tbl := mem_at 400 (by decide +kernel)
theorem mkX8_111 : Cond.methodLink RX8 111 yX3_has ∈ lw_tbl := mem_at 445 (by decide +kernel)
theorem mkX8_114 : Cond.methodLink RX8 114 yX8_isDirection ∈ lw_tbl := mem_at 449 (by decide +kernel)
theorem mkX8_117 : Cond.methodLink RX8 117 yX3_next ∈ lw_tbl := mem_at 452 (by decide +kernel)
theorem mkX8_121 : Cond.methodLink RX8 121 yX4_append ∈ lw_tbl := mem_at 626 (by decide +kernel)
theorem mkX8_125 : Cond.methodLink RX8 125 yX4_empty ∈ lw_tbl := mem_at 618 (by decide +kernel)
theorem mkX8_128 : Cond.methodLink RX8 128 yX4_faultAsTiles ∈ lw_tbl := mem_at 716 (by decide +kernel)
theorem mkX8_131 : Cond.methodLink RX8 131 yX0_record ∈ lw_tbl := mem_at 692 (by decide +kernel)
theorem mkX8_135 : Cond.methodLink RX8 135 yX8_takeKindsFromText ∈ lw_tbl := mem_at 723 (by decide +kernel)
theorem mkX8_138 : Cond.methodLink RX8 138 yX4_faultAsWalk ∈ lw_tbl := mem_at 634 (by decide +kernel)
theorem mkX8_141 : Cond.methodLink RX8 141 yX6_follow ∈ lw_tbl := mem_at 638 (by decide +kernel)
theorem mkX8_145 : Cond.methodLink RX8 145 yX6_tell ∈ lw_tbl := mem_at 672 (by decide +kernel)
theorem mkX8_149 : Cond.methodLink RX8 149 yX8_isKind ∈ lw_tbl := mem_at 423 (by decide +kernel)
theorem mkX8_152 : Cond.methodLink RX8 152 yX1_changesSince ∈ lw_tbl := mem_at 696 (by decide +kernel)
theorem mkX8_156 : Cond.methodLink RX8 156 yX1_labelOf ∈ lw_tbl := mem_at 468 (by decide +kernel)
theorem mkX8_159 : Cond.methodLink RX8 159 yX8_giveKindToPart ∈ lw_tbl := mem_at 704 (by decide +kernel)
theorem mkX8_162 : Cond.methodLink RX8 162 yX1_sizeOf ∈ lw_tbl := mem_at 708 (by decide +kernel)
theorem mkX8_165 : Cond.methodLink RX8 165 yX0_restore ∈ lw_tbl := mem_at 408 (by decide +kernel)
theorem mkX8_168 : Cond.methodLink RX8 168 yX1_labelNumber ∈ lw_tbl := mem_at 460 (by decide +kernel)
theorem mkX8_171 : Cond.methodLink RX8 171 yX1_property ∈ lw_tbl := mem_at 480 (by decide +kernel)
theorem mkX8_174 : Cond.methodLink RX8 174 yX1_greatestOf ∈ lw_tbl := mem_at 530 (by decide +kernel)
theorem mkX8_177 : Cond.methodLink RX8 177 yX1_find ∈ lw_tbl := mem_at 281 (by decide +kernel)
theorem mkX8_180 : Cond.methodLink RX8 180 yX7_changeWeight ∈ lw_tbl := mem_at 426 (by decide +kernel)
theorem mkX8_183 : Cond.methodLink RX8 183 yX7_measureFrom ∈ lw_tbl := mem_at 541 (by decide +kernel)
theorem mkX8_187 : Cond.methodLink RX8 187 yX7_lengthTo ∈ lw_tbl := mem_at 571 (by decide +kernel)
theorem mkX8_190 : Cond.methodLink RX8 190 yX7_routeTile ∈ lw_tbl := mem_at 579 (by decide +kernel)
theorem mkX8_194 : Cond.methodLink RX8 194 yX7_farthestTile ∈ lw_tbl := mem_at 591 (by decide +kernel)
theorem mkX8_197 : Cond.methodLink RX8 197 yX7_tilesUpTo ∈ lw_tbl := mem_at 599 (by decide +kernel)
theorem mkX8_200 : Cond.methodLink RX8 200 yX7_nearestOf ∈ lw_tbl := mem_at 607 (by decide +kernel)
theorem mkX8_203 : Cond.methodLink RX8 203 yX3_begin ∈ lw_tbl := mem_at 226 (by decide +kernel)
theorem mkX8_206 : Cond.methodLink RX8 206 yX7_levelWeights ∈ lw_tbl := mem_at 273 (by decide +kernel)
theorem mkX8_209 : Cond.methodLink RX8 209 yX0_forget ∈ lw_tbl := mem_at 277 (by decide +kernel)
theorem mkX8_212 : Cond.methodLink RX8 212 yX4_kindAt ∈ lw_tbl := mem_at 727 (by decide +kernel)
theorem mkX0_23 : Cond.methodLink RX0 23 yX0_place ∈ lw_tbl := mem_at 412 (by decide +kernel)
theorem mkX1_46 : Cond.methodLink RX1 46 yX3_tiles ∈ lw_tbl := mem_at 285 (by decide +kernel)
theorem mkX1_52 : Cond.methodLink RX1 52 yX1_flood ∈ lw_tbl := mem_at 286 (by decide +kernel)
theorem mkX1_56 : Cond.methodLink RX1 56 yX5_clear ∈ lw_tbl := mem_at 290 (by decide +kernel)
theorem mkX1_59 : Cond.methodLink RX1 59 yX1_enter ∈ lw_tbl := mem_at 294 (by decide +kernel)
theorem mkX1_63 : Cond.methodLink RX1 63 yX5_number ∈ lw_tbl := mem_at 302 (by decide +kernel)
theorem mkX1_65 : Cond.methodLink RX1 65 yX5_at ∈ lw_tbl := mem_at 306 (by decide +kernel)
theorem mkX1_69 : Cond.methodLink RX1 69 yX1_spread ∈ lw_tbl := mem_at 310 (by decide +kernel)
theorem mkX1_72 : Cond.methodLink RX1 72 yX5_add ∈ lw_tbl := mem_at 298 (by decide +kernel)
theorem mkX1_75 : Cond.methodLink RX1 75 yX3_next ∈ lw_tbl := mem_at 314 (by decide +kernel)
theorem mkX1_79 : Cond.methodLink RX1 79 yX3_crossing ∈ lw_tbl := mem_at 318 (by decide +kernel)
theorem mkX1_82 : Cond.methodLink RX1 82 yX1_bordersToOthers ∈ lw_tbl := mem_at 484 (by decide +kernel)
theorem mkX1_85 : Cond.methodLink RX1 85 yX1_bordersToNothing ∈ lw_tbl := mem_at 492 (by decide +kernel)
theorem mkX1_88 : Cond.methodLink RX1 88 yX1_loops ∈ lw_tbl := mem_at 496 (by decide +kernel)
theorem mkX1_91 : Cond.methodLink RX1 91 yX1_isOneSided ∈ lw_tbl := mem_at 507 (by decide +kernel)
theorem mkX1_95 : Cond.methodLink RX1 95 yX1_partsBeside ∈ lw_tbl := mem_at 511 (by decide +kernel)
theorem mkX1_98 : Cond.methodLink RX1 98 yX1_greatestDepth ∈ lw_tbl := mem_at 519 (by decide +kernel)
theorem mkX1_101 : Cond.methodLink RX1 101 yX1_leadsOut ∈ lw_tbl := mem_at 488 (by decide +kernel)
theorem mkX1_105 : Cond.methodLink RX1 105 yX1_loopOver ∈ lw_tbl := mem_at 500 (by decide +kernel)
theorem mkX1_108 : Cond.methodLink RX1 108 yX1_withLoop ∈ lw_tbl := mem_at 504 (by decide +kernel)
theorem mkX1_111 : Cond.methodLink RX1 111 yX1_isFirstMeeting ∈ lw_tbl := mem_at 515 (by decide +kernel)
theorem mkX2_18 : Cond.methodLink RX2 18 yX2_modulo ∈ lw_tbl := mem_at 262 (by decide +kernel)
theorem mkX3_35 : Cond.methodLink RX3 35 yX3_tiles ∈ lw_tbl := mem_at 238 (by decide +kernel)
theorem mkX3_39 : Cond.methodLink RX3 39 yX2_change ∈ lw_tbl := mem_at 230 (by decide +kernel)
theorem mkX3_43 : Cond.methodLink RX3 43 yX3_joinTiles ∈ lw_tbl := mem_at 234 (by decide +kernel)
theorem mkX3_46 : Cond.methodLink RX3 46 yX3_joinInside ∈ lw_tbl := mem_at 242 (by decide +kernel)
theorem mkX3_49 : Cond.methodLink RX3 49 yX3_joinSide ∈ lw_tbl := mem_at 250 (by decide +kernel)
theorem mkX3_52 : Cond.methodLink RX3 52 yX3_joinEnd ∈ lw_tbl := mem_at 269 (by decide +kernel)
theorem mkX3_55 : Cond.methodLink RX3 55 yX3_join ∈ lw_tbl := mem_at 246 (by decide +kernel)
theorem mkX3_59 : Cond.methodLink RX3 59 yX2_style ∈ lw_tbl := mem_at 254 (by decide +kernel)
theorem mkX3_62 : Cond.methodLink RX3 62 yX2_placeBeyond ∈ lw_tbl := mem_at 258 (by decide +kernel)
theorem mkX3_66 : Cond.methodLink RX3 66 yX2_crossing ∈ lw_tbl := mem_at 265 (by decide +kernel)
theorem mkX4_19 : Cond.methodLink RX4 19 yX4_isFitting ∈ lw_tbl := mem_at 720 (by decide +kernel)
theorem mkX6_19 : Cond.methodLink RX6 19 yX6_begin ∈ lw_tbl := mem_at 642 (by decide +kernel)
theorem mkX6_23 : Cond.methodLink RX6 23 yX4_length ∈ lw_tbl := mem_at 650 (by decide +kernel)
theorem mkX6_29 : Cond.methodLink RX6 29 yX4_at ∈ lw_tbl := mem_at 654 (by decide +kernel)
theorem mkX6_33 : Cond.methodLink RX6 33 yX6_obey ∈ lw_tbl := mem_at 658 (by decide +kernel)
theorem mkX6_50 : Cond.methodLink RX6 50 yX6_enter ∈ lw_tbl := mem_at 646 (by decide +kernel)
theorem mkX6_54 : Cond.methodLink RX6 54 yX6_step ∈ lw_tbl := mem_at 662 (by decide +kernel)
theorem mkX6_58 : Cond.methodLink RX6 58 yX6_turn ∈ lw_tbl := mem_at 668 (by decide +kernel)
theorem mkX6_65 : Cond.methodLink RX6 65 yX3_next ∈ lw_tbl := mem_at 666 (by decide +kernel)
theorem mkX6_71 : Cond.methodLink RX6 71 yX3_crossing ∈ lw_tbl := mem_at 667 (by decide +kernel)
theorem mkX7_32 : Cond.methodLink RX7 32 yX3_tiles ∈ lw_tbl := mem_at 545 (by decide +kernel)
theorem mkX7_38 : Cond.methodLink RX7 38 yX5_clear ∈ lw_tbl := mem_at 546 (by decide +kernel)
theorem mkX7_41 : Cond.methodLink RX7 41 yX7_reach ∈ lw_tbl := mem_at 547 (by decide +kernel)
theorem mkX7_45 : Cond.methodLink RX7 45 yX5_number ∈ lw_tbl := mem_at 552 (by decide +kernel)
theorem mkX7_48 : Cond.methodLink RX7 48 yX7_takeNearestOpen ∈ lw_tbl := mem_at 553 (by decide +kernel)
theorem mkX7_51 : Cond.methodLink RX7 51 yX7_spread ∈ lw_tbl := mem_at 562 (by decide +kernel)
theorem mkX7_55 : Cond.methodLink RX7 55 yX5_at ∈ lw_tbl := mem_at 557 (by decide +kernel)
theorem mkX7_59 : Cond.methodLink RX7 59 yX5_takeOut ∈ lw_tbl := mem_at 558 (by decide +kernel)
theorem mkX7_62 : Cond.methodLink RX7 62 yX7_stepLength ∈ lw_tbl := mem_at 566 (by decide +kernel)
theorem mkX7_66 : Cond.methodLink RX7 66 yX3_next ∈ lw_tbl := mem_at 570 (by decide +kernel)
theorem mkX7_69 : Cond.methodLink RX7 69 yX5_add ∈ lw_tbl := mem_at 551 (by decide +kernel)
theorem mkX7_72 : Cond.methodLink RX7 72 yX7_nextOnRoute ∈ lw_tbl := mem_at 583 (by decide +kernel)
theorem mkL_9 : Cond.methodLink RL 9 yX8_value ∈ lw_tbl := mem_at 375 (by decide +kernel)
theorem mkL_15 : Cond.methodLink RL 15 yX8_neighbour ∈ lw_tbl := mem_at 441 (by decide +kernel)
theorem mkL_19 : Cond.methodLink RL 19 yX8_part ∈ lw_tbl := mem_at 456 (by decide +kernel)
theorem mkL_22 : Cond.methodLink RL 22 yX8_label ∈ lw_tbl := mem_at 464 (by decide +kernel)
theorem mkL_25 : Cond.methodLink RL 25 yX8_kind ∈ lw_tbl := mem_at 472 (by decide +kernel)
theorem mkL_28 : Cond.methodLink RL 28 yX8_ofPart ∈ lw_tbl := mem_at 476 (by decide +kernel)
theorem mkL_31 : Cond.methodLink RL 31 yX8_greatestPart ∈ lw_tbl := mem_at 526 (by decide +kernel)
theorem mkL_34 : Cond.methodLink RL 34 yX8_distance ∈ lw_tbl := mem_at 537 (by decide +kernel)
theorem mkL_37 : Cond.methodLink RL 37 yX8_route ∈ lw_tbl := mem_at 575 (by decide +kernel)
theorem mkL_41 : Cond.methodLink RL 41 yX8_farthest ∈ lw_tbl := mem_at 587 (by decide +kernel)
theorem mkL_44 : Cond.methodLink RL 44 yL_low ∈ lw_tbl := mem_at 434 (by decide +kernel)
theorem mkL_49 : Cond.methodLink RL 49 yX8_within ∈ lw_tbl := mem_at 595 (by decide +kernel)
theorem mkL_52 : Cond.methodLink RL 52 yX8_nearest ∈ lw_tbl := mem_at 603 (by decide +kernel)
theorem mkL_59 : Cond.methodLink RL 59 yX8_clearText ∈ lw_tbl := mem_at 614 (by decide +kernel)
theorem mkL_63 : Cond.methodLink RL 63 yX8_type ∈ lw_tbl := mem_at 622 (by decide +kernel)
theorem mkL_67 : Cond.methodLink RL 67 yX8_walk ∈ lw_tbl := mem_at 630 (by decide +kernel)
theorem mkL_70 : Cond.methodLink RL 70 yL_print ∈ lw_tbl := mem_at 679 (by decide +kernel)
theorem mkL_74 : Cond.methodLink RL 74 yX8_partsIf ∈ lw_tbl := mem_at 684 (by decide +kernel)
theorem mkL_77 : Cond.methodLink RL 77 yX8_setTile ∈ lw_tbl := mem_at 688 (by decide +kernel)
theorem mkL_80 : Cond.methodLink RL 80 yX8_fill ∈ lw_tbl := mem_at 700 (by decide +kernel)
theorem mkL_83 : Cond.methodLink RL 83 yX8_readTiles ∈ lw_tbl := mem_at 712 (by decide +kernel)
theorem mkL_86 : Cond.methodLink RL 86 yX8_undo ∈ lw_tbl := mem_at 404 (by decide +kernel)
theorem mkL_89 : Cond.methodLink RL 89 yX8_reset ∈ lw_tbl := mem_at 347 (by decide +kernel)
theorem mkL_92 : Cond.methodLink RL 92 yX8_setSeam ∈ lw_tbl := mem_at 355 (by decide +kernel)
theorem mkL_96 : Cond.methodLink RL 96 yX8_setWeight ∈ lw_tbl := mem_at 419 (by decide +kernel)
theorem mkL_99 : Cond.methodLink RL 99 yX8_init ∈ lw_tbl := mem_at 45 (by decide +kernel)
theorem mkL_100 : Cond.methodLink RL 100 yL_cell ∈ lw_tbl := mem_at 430 (by decide +kernel)
theorem mkL_104 : Cond.methodLink RL 104 yL_edits ∈ lw_tbl := mem_at 676 (by decide +kernel)
theorem mkL_108 : Cond.methodLink RL 108 yL_steps ∈ lw_tbl := mem_at 438 (by decide +kernel)
theorem mkL_112 : Cond.methodLink RL 112 yL_walks ∈ lw_tbl := mem_at 611 (by decide +kernel)
theorem mkL_116 : Cond.methodLink RL 116 yL_parts ∈ lw_tbl := mem_at 453 (by decide +kernel)
theorem mkL_119 : Cond.methodLink RL 119 yL_greatest ∈ lw_tbl := mem_at 523 (by decide +kernel)
theorem mkL_123 : Cond.methodLink RL 123 yL_distances ∈ lw_tbl := mem_at 534 (by decide +kernel)
theorem mkL_127 : Cond.methodLink RL 127 yL_errors ∈ lw_tbl := mem_at 731 (by decide +kernel)
end
section
/-! ===== a small machine over whole numbers, and why its runs are runs of the bytecode ===== -/
abbrev AV : Type := Int ⊕ Nat
abbrev Mem : Type := Nat → Nat → Int
abbrev inR (x : Int) : Prop := -2147483648 ≤ x ∧ x ≤ 2147483647
/-- a row with another value at k; a memory with another row, another value -/
def upR (f : Nat → Int) (k : Nat) (v : Int) : Nat → Int := fun j => if j = k then v else f j
def upA (M : Mem) (a : Nat) (f : Nat → Int) : Mem := fun b => if b = a then f else M b
def up (M : Mem) (a k : Nat) (v : Int) : Mem := upA M a (upR (M a) k v)
def okM (M : Mem) : Prop := ∀ a k, inR (M a k)
def I32 (x : Int) : Int32 := Int32.ofInt x
/-- how a call is spoken of: how many arguments, what it answers (0 nothing, 1 a number, 2 a boolean, 3 a char, 4 a cell), what it wants, what it does -/
abbrev CS : Type := Nat × Nat × (List AV → Mem → Prop) × (List AV → Mem → Int → Mem → Prop)
theorem I32_toInt {x : Int} (h : inR x) : (I32 x).toInt = x := Int32.toInt_ofInt_of_le (by have := h.1; omega) (by have := h.2; omega)
theorem I32_inR (v : Int32) : inR v.toInt := ⟨by have := Int32.le_toInt v; omega, by have := Int32.toInt_lt v; omega⟩
theorem I32_of (v : Int32) : I32 v.toInt = v := Int32.ofInt_toInt v
theorem I32_clamp {x : Int} (h : inR x) : (I32 x).toNatClampNeg = x.toNat := by
  rw [← Int32.toNat_toInt, I32_toInt h]
theorem I32_eq {x y : Int} (hx : inR x) (hy : inR y) : I32 x = I32 y ↔ x = y := by
  rw [← Int32.toInt_inj, I32_toInt hx, I32_toInt hy]
theorem I32_lt {x y : Int} (hx : inR x) (hy : inR y) : I32 x < I32 y ↔ x < y := by
  rw [Int32.lt_iff_toInt_lt, I32_toInt hx, I32_toInt hy]
theorem I32_le {x y : Int} (hx : inR x) (hy : inR y) : I32 x ≤ I32 y ↔ x ≤ y := by
  rw [Int32.le_iff_toInt_le, I32_toInt hx, I32_toInt hy]
theorem I32_0 : I32 0 = 0 := by decide
theorem inR_0 : inR 0 := ⟨by decide, by decide⟩
theorem I32_vp {x : Int} {n : Nat} (h : inR x) (h0 : 0 ≤ x) (h1 : x < n) : vp_in (I32 x) n := by
  rw [vp_in_iff, I32_toInt h]; exact ⟨h0, h1⟩
theorem I32_add (x y : Int) : I32 x + I32 y = I32 (x + y) := (Int32.ofInt_add x y).symm
theorem I32_sub (x y : Int) : I32 x - I32 y = I32 (x - y) := (Int32.ofInt_sub x y).symm
theorem I32_mul (x y : Int) : I32 x * I32 y = I32 (x * y) := (Int32.ofInt_mul x y).symm
theorem I32_div {x y : Int} (hx : inR x) (hy : inR y) : I32 x / I32 y = I32 (x.tdiv y) := by
  unfold I32
  refine (Int32.ofInt_tdiv ?_ ?_ ?_ ?_).symm
  · exact Int.le_trans (by decide) hx.1
  · exact Int.le_trans hx.2 (by decide)
  · exact Int.le_trans (by decide) hy.1
  · exact Int.le_trans hy.2 (by decide)
theorem I32_rem {x y : Int} (hx : inR x) (hy : inR y) : I32 x - I32 x / I32 y * I32 y = I32 (x.tmod y) := by
  rw [I32_div hx hy, I32_mul, I32_sub]
  congr 1
  have := Int.tmod_add_mul_tdiv x y
  rw [Int.mul_comm] at this
  omega
def bAnd (x y : Int) : Int := (I32 x &&& I32 y).toInt
def bOr (x y : Int) : Int := (I32 x ||| I32 y).toInt
def bXor (x y : Int) : Int := (I32 x ^^^ I32 y).toInt
def bShl (x y : Int) : Int := (I32 x <<< (I32 y &&& 31)).toInt
def bShr (x y : Int) : Int := (I32 x >>> (I32 y &&& 31)).toInt
/-! the cells: how many fields a class has, which of them hold a cell, and which one -/
def nfs : List Nat := [3, 9, 2, 6, 2, 2, 7, 5, 8, 20]
def isRf (ci k : Nat) : Bool := match ci with
  | 0 => k == 0
  | 1 => Nat.ble k 7
  | 3 => Nat.ble k 3
  | 4 => k == 0
  | 5 => k == 0
  | 6 => Nat.ble k 1
  | 7 => true
  | 8 => true
  | 9 => k == 3 || k == 4 || k == 10 || k == 11 || k == 12 || k == 13 || k == 14 || k == 15 || k == 17 || k == 18 || k == 19
  | _ => false
def rfo (ci k a : Nat) (M : Mem) : Nat := match ci, k with
  | 0, _ => 17
  | 1, 0 => 1
  | 1, 1 => 6
  | 1, 2 => a + 1
  | 1, 3 => a + 2
  | 1, 4 => a + 3
  | 1, 5 => a + 4
  | 1, 6 => a + 5
  | 1, _ => a + 6
  | 3, 0 => 2
  | 3, 1 => 3
  | 3, 2 => 4
  | 3, _ => 5
  | 4, _ => 13
  | 5, _ => a + 1
  | 6, 0 => 1
  | 6, _ => 15
  | 7, 0 => 1
  | 7, 1 => 6
  | 7, 2 => 8
  | 7, 3 => 9
  | 7, _ => 10
  | 8, 0 => 1
  | 8, 1 => 6
  | 8, 2 => 7
  | 8, 3 => 12
  | 8, 4 => 14
  | 8, 5 => 16
  | 9, 3 => 1
  | 9, 4 => 2
  | 9, 10 => 3
  | 9, 11 => 4
  | 9, 12 => 5
  | 9, 13 => 6
  | 9, 14 => 7
  | 9, 15 => 8
  | 9, 17 => 9
  | 9, 18 => 10
  | 9, 19 => 11
  | _, _ => (M a k).toNat
def kdX (a : Nat) : Nat := [8, 3, 2, 2, 21, 21, 21, 7, 21, 21, 5, 21, 4, 20, 6, 22, 0, 23, 21, 21, 21, 21, 21, 21, 21, 21, 21, 21, 21, 21, 1, 21, 21, 21, 21, 22, 5, 21, 1, 21, 21, 21, 21, 22, 5, 21].getD a 99
def lnX (a : Nat) : Nat := [0, 0, 0, 0, 576, 576, 144, 0, 6, 144, 0, 144, 0, 160, 0, 144, 0, 12, 144, 144, 144, 144, 144, 144, 144, 144, 144, 144, 144, 144, 0, 144, 144, 144, 144, 144, 0, 144, 0, 144, 144, 144, 144, 144, 0, 144].getD a 0
def kdY (a : Nat) : Nat := [9, 21, 21, 20, 22, 21, 21, 21, 21, 21, 21, 21].getD a 99
def lnY (a : Nat) : Nat := [0, 144, 6, 160, 144, 144, 144, 144, 144, 1728, 144, 144].getD a 0
/-! one instruction -/
def vcmp (c : Jvm.ClassFile.Cond) (x y : Int) : Prop := match c with
  | .eq => x = y
  | .ne => ¬ x = y
  | .lt => x < y
  | .ge => y ≤ x
  | .gt => y < x
  | .le => x ≤ y
def vldI (ls : List (Option AV)) (k : Nat) (K : Int → Prop) : Prop := match ls[k]? with
  | some (some (.inl x)) => K x
  | _ => False
def vldA (ls : List (Option AV)) (k : Nat) (K : Nat → Prop) : Prop := match ls[k]? with
  | some (some (.inr a)) => K a
  | _ => False
def v2 (st : List AV) (K : Int → Int → List AV → Prop) : Prop := match st with
  | .inl y :: .inl x :: r => K x y r
  | _ => False
def v1 (st : List AV) (K : Int → List AV → Prop) : Prop := match st with
  | .inl x :: r => K x r
  | _ => False
def vA (st : List AV) (K : Nat → List AV → Prop) : Prop := match st with
  | .inr a :: r => K a r
  | _ => False
def vIA (st : List AV) (K : Int → Nat → List AV → Prop) : Prop := match st with
  | .inl i :: .inr a :: r => K i a r
  | _ => False
def vIIA (st : List AV) (K : Int → Int → Nat → List AV → Prop) : Prop := match st with
  | .inl x :: .inl i :: .inr a :: r => K x i a r
  | _ => False
def vtg (ts : List Nat) (K : Nat → Prop) : Prop := match ts with
  | [t] => K t
  | _ => False
def vtab (lo : Int) (us : List Nat) (x : Int) (K : Nat → Prop) : Prop := match us with
  | [] => True
  | u :: r => (x = lo → K u) ∧ vtab (lo + 1) r x K
def vput (ci k : Nat) (kd : Nat → Nat) (st : List AV) (M : Mem) (K : List AV → Mem → Prop) : Prop := match st with
  | .inl x :: .inr a :: r => kd a = ci ∧ bif isRf ci k then False else K r (up M a k x)
  | .inr b :: .inr a :: r => kd a = ci ∧ kd b = 1 ∧ b < 100 ∧ bif Nat.beq ci 8 && (Nat.beq k 6 || Nat.beq k 7) then K r (up M a k (b : Int)) else False
  | _ => False
def vpush (rt : Nat) (x : Int) (st : List AV) : List AV := match rt with
  | 0 => st
  | 4 => .inr x.toNat :: st
  | _ => .inl x :: st
def vret (rty : Nat) (x : Int) : Prop := match rty with
  | 1 => True
  | 2 => x = 0 ∨ x = 1
  | 3 => 0 ≤ x ∧ x < 65536
  | _ => False
def vcall (cs : Option CS) (st : List AV) (M : Mem) (K : List AV → Mem → Prop) : Prop := match cs with
  | some (k, rt, P, C) => bif Nat.ble k st.length && Nat.ble st.length (k + 8) then P (st.take k).reverse M ∧ ∀ (x : Int) (M' : Mem), inR x → okM M' → C (st.take k).reverse M x M' → K (vpush rt x (st.drop k)) M' else False
  | none => False
abbrev KT : Type := Nat → List (Option AV) → List AV → Mem → Prop
def vstep (kd ln : Nat → Nat) (ft : Nat → Nat × Nat) (cst : Nat → Int) (rty : Nat) (post : Int → Mem → Prop) (cs : Option CS) (K : KT)
    (pc : Nat) (i : Instr) (n : Nat) (ts : List Nat) (ls : List (Option AV)) (st : List AV) (M : Mem) : Prop := match i with
  | .iconst v => K (pc + n) ls (.inl v :: st) M
  | .bipush v => K (pc + n) ls (.inl v :: st) M
  | .sipush v => K (pc + n) ls (.inl v :: st) M
  | .ldc j => K (pc + n) ls (.inl (cst j) :: st) M
  | .iload_n k => vldI ls k.val fun x => K (pc + n) ls (.inl x :: st) M
  | .iload k => vldI ls k fun x => K (pc + n) ls (.inl x :: st) M
  | .aload_n k => vldA ls k.val fun a => K (pc + n) ls (.inr a :: st) M
  | .aload k => vldA ls k fun a => K (pc + n) ls (.inr a :: st) M
  | .istore_n k => bif Nat.blt k.val ls.length then v1 st fun x r => K (pc + n) (ls.set k.val (some (.inl x))) r M else False
  | .istore k => bif Nat.blt k ls.length then v1 st fun x r => K (pc + n) (ls.set k (some (.inl x))) r M else False
  | .astore_n k => bif Nat.blt k.val ls.length then vA st fun a r => K (pc + n) (ls.set k.val (some (.inr a))) r M else False
  | .astore k => bif Nat.blt k ls.length then vA st fun a r => K (pc + n) (ls.set k (some (.inr a))) r M else False
  | .iadd => v2 st fun x y r => inR (x + y) ∧ K (pc + n) ls (.inl (x + y) :: r) M
  | .isub => v2 st fun x y r => inR (x - y) ∧ K (pc + n) ls (.inl (x - y) :: r) M
  | .imul => v2 st fun x y r => inR (x * y) ∧ K (pc + n) ls (.inl (x * y) :: r) M
  | .idiv => v2 st fun x y r => (0 ≤ x ∧ 0 < y) ∧ K (pc + n) ls (.inl (x / y) :: r) M
  | .irem => v2 st fun x y r => 0 < y ∧ K (pc + n) ls (.inl (x.tmod y) :: r) M
  | .iand => v2 st fun x y r => K (pc + n) ls (.inl (bAnd x y) :: r) M
  | .ior => v2 st fun x y r => K (pc + n) ls (.inl (bOr x y) :: r) M
  | .ixor => v2 st fun x y r => K (pc + n) ls (.inl (bXor x y) :: r) M
  | .ishl => v2 st fun x y r => K (pc + n) ls (.inl (bShl x y) :: r) M
  | .ishr => v2 st fun x y r => K (pc + n) ls (.inl (bShr x y) :: r) M
  | .iinc k c => vldI ls k fun x => inR (x + c) ∧ K (pc + n) (ls.set k (some (.inl (x + c)))) st M
  | .i2c => v1 st fun x r => (0 ≤ x ∧ x < 65536) ∧ K (pc + n) ls (.inl x :: r) M
  | .dup => (match st with | v :: r => K (pc + n) ls (v :: v :: r) M | _ => False)
  | .pop => (match st with | _ :: r => K (pc + n) ls r M | _ => False)
  | .goto _ => vtg ts fun t => K t ls st M
  | .ifCond c _ => v1 st fun x r => vtg ts fun t => (vcmp c x 0 → K t ls r M) ∧ (¬ vcmp c x 0 → K (pc + n) ls r M)
  | .if_icmp c _ => v2 st fun x y r => vtg ts fun t => (vcmp c x y → K t ls r M) ∧ (¬ vcmp c x y → K (pc + n) ls r M)
  | .tableswitch _ lo hi _ => v1 st fun x r => (match ts with | d :: us => ((x < lo ∨ hi < x) → K d ls r M) ∧ vtab lo us x (fun t => K t ls r M) | _ => False)
  | .getfield j => vA st fun a r => kd a = (ft j).1 ∧ (bif isRf (ft j).1 (ft j).2 then K (pc + n) ls (.inr (rfo (ft j).1 (ft j).2 a M) :: r) M else K (pc + n) ls (.inl (M a (ft j).2) :: r) M)
  | .putfield j => vput (ft j).1 (ft j).2 kd st M fun r M' => K (pc + n) ls r M'
  | .iaload => vIA st fun i a r => kd a = 21 ∧ (0 ≤ i ∧ i < ln a) ∧ K (pc + n) ls (.inl (M a i.toNat) :: r) M
  | .caload => vIA st fun i a r => kd a = 20 ∧ (0 ≤ i ∧ i < ln a) ∧ K (pc + n) ls (.inl (M a i.toNat) :: r) M
  | .baload => vIA st fun i a r => kd a = 22 ∧ (0 ≤ i ∧ i < ln a) ∧ K (pc + n) ls (.inl (M a i.toNat) :: r) M
  | .aaload => vIA st fun i a r => kd a = 23 ∧ (0 ≤ i ∧ i < ln a) ∧ K (pc + n) ls (.inr (a + 1 + i.toNat) :: r) M
  | .iastore => vIIA st fun x i a r => kd a = 21 ∧ (0 ≤ i ∧ i < ln a) ∧ K (pc + n) ls r (up M a i.toNat x)
  | .castore => vIIA st fun x i a r => kd a = 20 ∧ (0 ≤ i ∧ i < ln a) ∧ (0 ≤ x ∧ x < 65536) ∧ K (pc + n) ls r (up M a i.toNat x)
  | .bastore => vIIA st fun x i a r => kd a = 22 ∧ (0 ≤ i ∧ i < ln a) ∧ (x = 0 ∨ x = 1) ∧ K (pc + n) ls r (up M a i.toNat x)
  | .ireturn => (match st with | [.inl x] => vret rty x ∧ post x M | _ => False)
  | .areturn => (match st with | [.inr a] => rty = 4 ∧ a < 1000 ∧ post a M | _ => False)
  | .return_ => (match st with | [] => rty = 0 ∧ post 0 M | _ => False)
  | .invokevirtual _ => vcall cs st M fun r M' => K (pc + n) ls r M'
  | .invokestatic _ => vcall cs st M fun r M' => K (pc + n) ls r M'
  | _ => False
/-- a run from pc to the next of the cuts, or to the method's end -/
def vc (kd ln : Nat → Nat) (tb : TB) (ft : Nat → Nat × Nat) (cst : Nat → Int) (rty : Nat) (post : Int → Mem → Prop) (ct : List (Nat × CS)) (cuts : List Nat) (J : KT) : Nat → KT
  | 0, _, _, _, _ => False
  | f + 1, pc, ls, st, M => match tb.lookup pc with
    | some (i, n, ts) => vstep kd ln ft cst rty post (ct.lookup pc) (fun pc' ls' st' M' => bif cuts.elem pc' then J pc' ls' st' M' else vc kd ln tb ft cst rty post ct cuts J f pc' ls' st' M') pc i n ts ls st M
    | none => False
end
section
/-! ===== the small machine's runs are the bytecode's ===== -/
theorem lookup_mem {α : Type} {k : Nat} {v : α} : ∀ {l : List (Nat × α)}, l.lookup k = some v → (k, v) ∈ l
  | [], h => by cases h
  | (a, b) :: r, h => by
    rw [List.lookup_cons] at h
    by_cases e : (k == a) = true
    · rw [e] at h
      have e2 : k = a := by simpa using e
      cases h
      rw [e2]
      exact List.mem_cons_self
    · rw [Bool.not_eq_true] at e
      rw [e] at h
      exact List.mem_cons_of_mem _ (lookup_mem h)
def ftl (ft : List (Nat × Nat × Nat × Nat)) (j : Nat) : Nat × Nat := match ft.lookup j with
  | some q => (q.1, q.2.1)
  | none => (98, 98)
/-- what the tables say of a class by its number -/
def clsOK (ci : Nat) (C : String) (T : u_T) (N : Nat) : Prop :=
  (∃ ty0 : Nat → FieldType, ∀ k, k < N → parseFieldDescriptor (T k).2.2.1 = some (ty0 k)) ∧ (∀ a, a < N → ∀ b, b < N → a ≠ b → (T a).2.1 ≠ (T b).2.1) ∧ (∀ w ∈ u_ws C T N, w ∈ wtb) ∧ N = nfs.getD ci 0 ∧
  (∀ k, k < N → isRf ci k = false → parseFieldDescriptor (T k).2.2.1 = some .int ∧ (T k).2.2.2 = false) ∧ (ci = 8 → ∀ k, (k = 6 ∨ k = 7) → parseFieldDescriptor (T k).2.2.1 = some (.object "SeamMap$Parts") ∧ (T k).2.2.2 = false)
theorem lt_or_ge10 {α : Type} {cl : List α} {ci : Nat} {q : α} (h : cl[ci]? = some q) : ci < cl.length := (List.getElem?_eq_some_iff.mp h).1
theorem clsOK_of {ci : Nat} {C : String} {T : u_T} {N : Nat} (h : vwCl[ci]? = some (C, T, N)) : clsOK ci C T N := by
  have hl := lt_or_ge10 h
  match ci, hl, h with
  | 0, _, h => cases h; exact ⟨⟨tyX0, tyX0_ok⟩, nmX0, fun w hw => wtb_in (inX0 w hw) ((by decide +kernel : ∀ w ∈ wsX00, goodWord w = true) w hw), rfl, by decide +kernel, fun h => absurd h (by decide)⟩
  | 1, _, h => cases h; exact ⟨⟨tyX1, tyX1_ok⟩, nmX1, fun w hw => wtb_in (inX1 w hw) ((by decide +kernel : ∀ w ∈ wsX10, goodWord w = true) w hw), rfl, by decide +kernel, fun h => absurd h (by decide)⟩
  | 2, _, h => cases h; exact ⟨⟨tyX2, tyX2_ok⟩, nmX2, fun w hw => wtb_in (inX2 w hw) ((by decide +kernel : ∀ w ∈ wsX20, goodWord w = true) w hw), rfl, by decide +kernel, fun h => absurd h (by decide)⟩
  | 3, _, h => cases h; exact ⟨⟨tyX3, tyX3_ok⟩, nmX3, fun w hw => wtb_in (inX3 w hw) ((by decide +kernel : ∀ w ∈ wsX30, goodWord w = true) w hw), rfl, by decide +kernel, fun h => absurd h (by decide)⟩
  | 4, _, h => cases h; exact ⟨⟨tyX4, tyX4_ok⟩, nmX4, fun w hw => wtb_in (inX4 w hw) ((by decide +kernel : ∀ w ∈ wsX40, goodWord w = true) w hw), rfl, by decide +kernel, fun h => absurd h (by decide)⟩
  | 5, _, h => cases h; exact ⟨⟨tyX5, tyX5_ok⟩, nmX5, fun w hw => wtb_in (inX5 w hw) ((by decide +kernel : ∀ w ∈ wsX50, goodWord w = true) w hw), rfl, by decide +kernel, fun h => absurd h (by decide)⟩
  | 6, _, h => cases h; exact ⟨⟨tyX6, tyX6_ok⟩, nmX6, fun w hw => wtb_in (inX6 w hw) ((by decide +kernel : ∀ w ∈ wsX60, goodWord w = true) w hw), rfl, by decide +kernel, fun h => absurd h (by decide)⟩
  | 7, _, h => cases h; exact ⟨⟨tyX7, tyX7_ok⟩, nmX7, fun w hw => wtb_in (inX7 w hw) ((by decide +kernel : ∀ w ∈ wsX70, goodWord w = true) w hw), rfl, by decide +kernel, fun h => absurd h (by decide)⟩
  | 8, _, h => cases h; exact ⟨⟨tyX8, tyX8_ok⟩, nmX8, fun w hw => wtb_in (inX8 w hw) ((by decide +kernel : ∀ w ∈ wsX80, goodWord w = true) w hw), rfl, by decide +kernel, fun _ k hk => by rcases hk with rfl | rfl <;> decide +kernel⟩
theorem ftOK_of {own : String} {ft : List (Nat × Nat × Nat × Nat)} (h : ftOK own ft = true) {j ci k : Nat} (hj : ftl ft j = (ci, k)) (hc : ci ≠ 98) : ∃ (C : String) (T : u_T) (N : Nat), vwCl[ci]? = some (C, T, N) ∧ k < N ∧ Cond.fieldLink own j C (T k).2.1 (T k).2.2.1 ∈ wtb ∧ (T k).1 = C := by
  unfold ftl at hj
  cases e : ft.lookup j with
  | none => rw [e] at hj; cases hj; exact absurd rfl hc
  | some q =>
    obtain ⟨c1, k1, p1⟩ := q
    rw [e] at hj
    have hj1 : c1 = ci := congrArg Prod.fst hj
    have hj2 : k1 = k := congrArg Prod.snd hj
    subst hj1; subst hj2
    have h1 := List.all_eq_true.mp h _ (lookup_mem e)
    dsimp only at h1
    cases ev : vwCl[c1]? with
    | none => rw [ev] at h1; cases h1
    | some r =>
      obtain ⟨C, T, N⟩ := r
      rw [ev] at h1
      simp only [Bool.and_eq_true, decide_eq_true_eq] at h1
      exact ⟨C, T, N, rfl, h1.1.1, wtb_in (mem_at _ h1.1.2) rfl, h1.2⟩
/-! values, cells, worlds -/
def cV (ad : Nat → Nat) (v : AV) : Value := match v with
  | .inl x => .int (I32 x)
  | .inr a => .ref (ad a)
def flds (ad : Nat → Nat) (ci a : Nat) (M : Mem) : List Value := (List.range (nfs.getD ci 0)).map fun k => bif isRf ci k then .ref (ad (rfo ci k a M)) else .int (I32 (M a k))
def eOf (ad kd ln : Nat → Nat) (cy : Nat → ClassId) (M : Mem) (a : Nat) : va_E :=
  if kd a < 20 then .inr (kd a, flds ad (kd a) a M) else if kd a = 23 then .inl (cy 23, ln a, .inr (.inr (.inr (.inr (fun i => some (ad (a + 1 + i))))))) else .inl (cy (kd a), ln a, .inl (fun j => I32 (M a j)))
def wld (ad kd ln : Nat → Nat) (cy : Nat → ClassId) (nc : Nat) (M : Mem) : va_W := (List.range nc).map fun a => (ad a, eOf ad kd ln cy M a)
def tysJ (cy : Nat → ClassId) : List (ClassId × FieldType) := [(cy 20, .char), (cy 21, .int), (cy 22, .boolean), (cy 23, .array .int)]
def FR (ad : Nat → Nat) (nc : Nat) : Nat → Prop := fun q => ∃ a, a < nc ∧ ad a = q
/-- the layout: the cells' kinds and lengths -/
def jW (kd ln : Nat → Nat) (nc : Nat) : Prop := (∀ a, kd a ≠ 99 → a < nc) ∧ (∀ a, ln a ≤ 100000) ∧ (∀ a, kd a ≠ 98)
def jA (ad : Nat → Nat) (nc : Nat) : Prop := ∀ a b, a < nc → b < nc → ad a = ad b → a = b
theorem getD_lt {l : List Nat} {d a : Nat} (h : l.getD a d ≠ d) : a < l.length := by
  rcases Nat.lt_or_ge a l.length with q | q
  · exact q
  · exact absurd (by rw [List.getD_eq_getElem?_getD, List.getElem?_eq_none q]; rfl) h
theorem getD_all {l : List Nat} {d a : Nat} {P : Nat → Prop} (h : ∀ x ∈ l, P x) (hd : P d) : P (l.getD a d) := by
  rw [List.getD_eq_getElem?_getD]
  cases e : l[a]? with
  | none => exact hd
  | some x => exact h x (List.mem_of_getElem? e)
theorem jWX : jW kdX lnX 46 := ⟨fun a h => getD_lt h, fun a => getD_all (P := fun x => x ≤ 100000) (by decide) (by decide), fun a => getD_all (P := fun x => x ≠ 98) (by decide) (by decide)⟩
theorem jWY : jW kdY lnY 12 := ⟨fun a h => getD_lt h, fun a => getD_all (P := fun x => x ≤ 100000) (by decide) (by decide), fun a => getD_all (P := fun x => x ≠ 98) (by decide) (by decide)⟩
theorem rfo_congr {ci k a : Nat} {M M' : Mem} (h : M' a k = M a k) : rfo ci k a M' = rfo ci k a M := by
  unfold rfo
  split <;> first | rfl | rw [h]
theorem flds_congr {ad : Nat → Nat} {ci a : Nat} {M M' : Mem} (h : M' a = M a) : flds ad ci a M' = flds ad ci a M := by
  unfold flds
  refine List.map_congr_left fun k _ => ?_
  rw [rfo_congr (by rw [h]), h]
theorem eOf_congr {ad kd ln : Nat → Nat} {cy : Nat → ClassId} {a : Nat} {M M' : Mem} (h : M' a = M a) : eOf ad kd ln cy M' a = eOf ad kd ln cy M a := by
  unfold eOf
  rw [flds_congr h, h]
theorem upA_s {M : Mem} {a : Nat} {f : Nat → Int} : upA M a f a = f := by simp [upA]
theorem upA_n {M : Mem} {a b : Nat} {f : Nat → Int} (h : b ≠ a) : upA M a f b = M b := by simp [upA, h]
theorem up_eq {M : Mem} {a k : Nat} {v : Int} : up M a k v = upA M a (upR (M a) k v) := rfl
theorem upR_s {f : Nat → Int} {k : Nat} {v : Int} : upR f k v k = v := by simp [upR]
theorem upR_n {f : Nat → Int} {k j : Nat} {v : Int} (h : j ≠ k) : upR f k v j = f j := by simp [upR, h]
theorem up_inR {M : Mem} {a k : Nat} {v : Int} (h : ∀ b j, inR (M b j)) (hv : inR v) : ∀ b j, inR (up M a k v b j) := by
  intro b j
  rw [up_eq]
  by_cases e : b = a
  · subst e
    rw [upA_s]
    by_cases e2 : j = k
    · subst e2; rw [upR_s]; exact hv
    · rw [upR_n e2]; exact h _ _
  · rw [upA_n e]; exact h _ _
theorem flds_up {ad : Nat → Nat} {ci a k : Nat} {M : Mem} {x : Int} (hk : k < nfs.getD ci 0) (w : Value)
    (hw : (bif isRf ci k then Value.ref (ad (rfo ci k a (up M a k x))) else .int (I32 x)) = w) : (flds ad ci a M).set k w = flds ad ci a (up M a k x) := by
  apply List.ext_getElem?
  intro j
  unfold flds
  rw [List.getElem?_set, List.getElem?_map, List.getElem?_map]
  by_cases e : k = j
  · subst e
    rw [if_pos rfl, if_pos (by simp; exact hk), List.getElem?_range hk]
    rw [← hw]
    simp [up_eq, upA_s, upR_s]
  · rw [if_neg e]
    cases hj : (List.range (nfs.getD ci 0))[j]? with
    | none => rfl
    | some q =>
      have e2 : q = j := by
        obtain ⟨h1, h2⟩ := List.getElem?_eq_some_iff.mp hj
        rw [← h2, List.getElem_range]
      subst e2
      have e3 : up M a k x a q = M a q := by rw [up_eq, upA_s, upR_n (fun z => e z.symm)]
      show some (bif isRf ci q then Value.ref (ad (rfo ci q a M)) else .int (I32 (M a q))) = some (bif isRf ci q then Value.ref (ad (rfo ci q a (up M a k x))) else .int (I32 (up M a k x a q)))
      rw [rfo_congr (M := M) (M' := up M a k x) e3, e3]
theorem wld_at {ad kd ln : Nat → Nat} {cy : Nat → ClassId} {nc a : Nat} {M : Mem} (h : a < nc) : (wld ad kd ln cy nc M)[a]? = some (ad a, eOf ad kd ln cy M a) := by
  unfold wld
  rw [List.getElem?_map, List.getElem?_range h]
  rfl
theorem wld_set {ad kd ln : Nat → Nat} {cy : Nat → ClassId} {nc a : Nat} {M : Mem} {f : Nat → Int} {e : va_E} (he : e = eOf ad kd ln cy (upA M a f) a) : (wld ad kd ln cy nc M).set a (ad a, e) = wld ad kd ln cy nc (upA M a f) := by
  apply List.ext_getElem?
  intro j
  subst he
  unfold wld
  rw [List.getElem?_set, List.getElem?_map, List.getElem?_map]
  by_cases e : a = j
  · subst e
    rw [if_pos rfl]
    by_cases hl : a < nc
    · rw [if_pos (by simp; exact hl), List.getElem?_range hl]; rfl
    · rw [if_neg (by simp; omega), List.getElem?_eq_none (by simp; omega)]; rfl
  · rw [if_neg e]
    cases hj : (List.range nc)[j]? with
    | none => rfl
    | some q =>
      have e2 : q = j := by
        obtain ⟨h1, h2⟩ := List.getElem?_eq_some_iff.mp hj
        rw [← h2, List.getElem_range]
      subst e2
      show some (ad q, eOf ad kd ln cy M q) = some (ad q, eOf ad kd ln cy (upA M a f) q)
      rw [eOf_congr (M := M) (M' := upA M a f) (upA_n (fun z => e z.symm))]
theorem wld_D {ad kd ln : Nat → Nat} {cy : Nat → ClassId} {nc : Nat} {M : Mem} (hA : jA ad nc) : va_D (FR ad nc) (wld ad kd ln cy nc M) := by
  have key : ∀ (k : Nat) (q : Nat × va_E), (wld ad kd ln cy nc M)[k]? = some q → k < nc ∧ q.1 = ad k := by
    intro k q h
    have hl : k < nc := by
      have := (List.getElem?_eq_some_iff.mp h).1
      simpa [wld] using this
    rw [wld_at hl] at h
    cases h
    exact ⟨hl, rfl⟩
  refine ⟨fun i j x y hi hj hxy => ?_, fun k q h => ?_⟩
  · obtain ⟨h1, h2⟩ := key i x hi
    obtain ⟨h3, h4⟩ := key j y hj
    exact hA i j h1 h3 (by rw [← h2, ← h4]; exact hxy)
  · obtain ⟨h1, h2⟩ := key k q h
    exact ⟨k, h1, h2.symm⟩
theorem eOf_obj {ad kd ln : Nat → Nat} {cy : Nat → ClassId} {M : Mem} {a ci : Nat} (h : kd a = ci) (hc : ci < 20) : eOf ad kd ln cy M a = .inr (ci, flds ad ci a M) := by
  unfold eOf; rw [h, if_pos hc]
theorem eOf_arr {ad kd ln : Nat → Nat} {cy : Nat → ClassId} {M : Mem} {a ci : Nat} (h : kd a = ci) (h1 : 20 ≤ ci) (h2 : ci ≠ 23) : eOf ad kd ln cy M a = .inl (cy ci, ln a, .inl (fun j => I32 (M a j))) := by
  unfold eOf; rw [h, if_neg (by omega), if_neg h2]
theorem eOf_rows {ad kd ln : Nat → Nat} {cy : Nat → ClassId} {M : Mem} {a : Nat} (h : kd a = 23) : eOf ad kd ln cy M a = .inl (cy 23, ln a, .inr (.inr (.inr (.inr (fun i => some (ad (a + 1 + i))))))) := by
  unfold eOf; rw [h]; rfl
theorem flds_at {ad : Nat → Nat} {ci a k : Nat} {M : Mem} (h : k < nfs.getD ci 0) : (flds ad ci a M)[k]? = some (bif isRf ci k then .ref (ad (rfo ci k a M)) else .int (I32 (M a k))) := by
  unfold flds
  rw [List.getElem?_map, List.getElem?_range h]
  rfl
theorem flds_len {ad : Nat → Nat} {ci a : Nat} {M : Mem} : (flds ad ci a M).length = nfs.getD ci 0 := by simp [flds]
theorem upI {f : Nat → Int} {k : Nat} {x : Int} : (fun j => I32 (upR f k x j)) = upd (fun j => I32 (f j)) k (I32 x) := by
  funext j
  by_cases e : j = k
  · subst e; simp [upR, upd]
  · simp [upR, upd, e]
/-! locals -/
def jL (ex : List (Nat × Value)) (ad : Nat → Nat) (lsC : Array Slot) (nL : Nat) (ls : List (Option AV)) : Prop := ls.length = nL ∧ ∃ lv, lv_has lsC nL lv ∧ (∀ (i : Nat) (v : AV), ls[i]? = some (some v) → (i, cV ad v) ∈ lv) ∧ ∀ q ∈ ex, q ∈ lv
/-- the places that an instruction stores into; places kept apart -/
def stK (i : Instr) : Option Nat := match i with
  | .istore_n k => some k.val
  | .istore k => some k
  | .astore_n k => some k.val
  | .astore k => some k
  | .iinc k _ => some k
  | _ => none
def exT (ex : List (Nat × Value)) (tb : TB) : Prop := ∀ (pc : Nat) (i : Instr) (n : Nat) (ts : List Nat), tb.lookup pc = some (i, n, ts) → ∀ k, stK i = some k → ∀ q ∈ ex, q.1 ≠ k ∧ q.1 + 1 ≠ k
theorem exT_nil {tb : TB} : exT [] tb := fun _ _ _ _ _ _ _ q hq => absurd hq List.not_mem_nil
theorem cV_cat {ad : Nat → Nat} (v : AV) : (cV ad v).category = 1 := by
  cases v <;> rfl
theorem jL_get {ex : List (Nat × Value)} {ad : Nat → Nat} {lsC : Array Slot} {nL : Nat} {ls : List (Option AV)} (h : jL ex ad lsC nL ls) {i : Nat} {v : AV} (hi : ls[i]? = some (some v)) : lsC[i]? = some (.val (cV ad v)) := by
  obtain ⟨-, lv, h1, h2, -⟩ := h
  exact h1.2.2 (i, cV ad v) (h2 i v hi)
theorem jL_set {ex : List (Nat × Value)} {ad : Nat → Nat} {lsC : Array Slot} {nL : Nat} {ls : List (Option AV)} {lv : List (Nat × Value)} {i : Nat} {v : AV} (hl : ls.length = nL) (hi : i < ls.length) (h2 : ∀ (i : Nat) (v : AV), ls[i]? = some (some v) → (i, cV ad v) ∈ lv) (h3 : ∀ q ∈ ex, q ∈ lv) (hex : ∀ q ∈ ex, q.1 ≠ i ∧ q.1 + 1 ≠ i)
    (h : lv_has lsC nL ((i, cV ad v) :: lv.filter (fun q => !(q.1 == i) && !(q.1 + 1 == i && q.2.category == 2)))) : jL ex ad lsC nL (ls.set i (some v)) := by
  refine ⟨by simp [hl], _, h, fun j w hj => ?_, fun q hq => ?_⟩
  rotate_left
  · refine List.mem_cons_of_mem _ (List.mem_filter.mpr ⟨h3 q hq, ?_⟩)
    obtain ⟨e1, e2⟩ := hex q hq
    have f1 : (q.1 == i) = false := by simpa using e1
    have f2 : (q.1 + 1 == i) = false := by simpa using e2
    simp [f1, f2]
  rw [List.getElem?_set] at hj
  by_cases e : i = j
  · subst e
    rw [if_pos rfl, if_pos hi] at hj
    cases hj
    exact List.mem_cons_self
  · rw [if_neg e] at hj
    refine List.mem_cons_of_mem _ (List.mem_filter.mpr ⟨h2 j w hj, ?_⟩)
    have e2 : (j == i) = false := by simp; exact fun z => e z.symm
    simp [e2, cV_cat]
theorem lv_args1 {ad : Nat → Nat} : ∀ (as : List AV) (n i : Nat) (v : AV), as[i]? = some v → (n + i, cV ad v) ∈ lv_args n (as.map (cV ad))
  | [], n, i, v, h => by simp at h
  | a :: r, n, i, v, h => by
    rw [List.map_cons, lv_args]
    cases i with
    | zero => cases h; exact List.mem_cons_self
    | succ i =>
      refine List.mem_cons_of_mem _ ?_
      rw [if_neg (by rw [cV_cat]; decide)]
      have := lv_args1 (ad := ad) r (n + 1) i v h
      rwa [show n + (i + 1) = n + 1 + i by omega]
theorem lg_len {ad : Nat → Nat} : ∀ (as : List AV), (lg_sl (as.map (cV ad))).length = as.length
  | [] => rfl
  | a :: r => by
    have h := lg_len (ad := ad) r
    have h1 : (cV ad a).category = 1 := cV_cat a
    simp only [List.map_cons, lg_sl, List.flatMap_cons, List.length_append, List.length_cons] at h ⊢
    rw [h]
    simp [h1]
    omega
theorem jL_entry {ad : Nat → Nat} {as : List AV} {n : Nat} (h : as.length ≤ n) : jL [] ad ((lg_sl (as.map (cV ad)) ++ List.replicate (n - (lg_sl (as.map (cV ad))).length) Slot.unset).toArray) n (as.map some ++ List.replicate (n - as.length) none) := by
  refine ⟨by simp; omega, _, lv_entry (as.map (cV ad)) (by rw [lg_len]; exact h), fun i v hi => ?_, fun q hq => absurd hq List.not_mem_nil⟩
  have h2 : as[i]? = some v := by
    by_cases hl : i < as.length
    · rw [List.getElem?_append_left (by simpa using hl), List.getElem?_map] at hi
      cases e : as[i]? with
      | none => rw [e] at hi; cases hi
      | some w => rw [e] at hi; cases hi; rfl
    · rw [List.getElem?_append_right (by simp; omega)] at hi
      have := List.eq_of_mem_replicate (List.mem_of_getElem? hi)
      cases this
  have := lv_args1 (ad := ad) as 0 i v h2
  rwa [Nat.zero_add] at this
theorem tbOK_of {code : ByteArray} {tb : TB} (h : tbOK code tb = true) {pc : Nat} {i : Instr} {n : Nat} {ts : List Nat} (hl : tb.lookup pc = some (i, n, ts)) : decode code pc = .ok (i, n) ∧ tgOK pc i ts = true := by
  have h1 := List.all_eq_true.mp h _ (lookup_mem hl)
  simp only [Bool.and_eq_true, decide_eq_true_eq] at h1
  exact h1
end
section
/-! ===== one instruction of the small machine is one of the bytecode ===== -/
def lnOK (i : Instr) (n : Nat) : Bool := match i with
  | .bipush _ => n == 2
  | .iload _ => n == 2
  | .istore _ => n == 2
  | .aload _ => n == 2
  | .astore _ => n == 2
  | .ldc _ => n == 2
  | .sipush _ => n == 3
  | .iinc _ _ => n == 3
  | .lstore _ => n == 2
  | .lload _ => n == 2
  | .ldc2_w _ => n == 3
  | .newarray _ => n == 2
  | .goto _ => n == 3
  | .ifCond _ _ => n == 3
  | .if_icmp _ _ => n == 3
  | .getfield _ => n == 3
  | .putfield _ => n == 3
  | .invokevirtual _ => n == 3
  | .invokestatic _ => n == 3
  | .tableswitch _ _ _ _ => true
  | _ => n == 1
def tbL (tb : TB) : Bool := tb.all fun q => lnOK q.2.1 q.2.2.1
theorem bif_of {b : Bool} {p : Prop} (h : bif b then p else False) : b = true ∧ p := by
  cases b with
  | true => exact ⟨rfl, h⟩
  | false => exact h.elim
theorem bifn_of {b : Bool} {p : Prop} (h : bif b then False else p) : b = false ∧ p := by
  cases b with
  | true => exact h.elim
  | false => exact ⟨rfl, h⟩
theorem v1_of {st : List AV} {K : Int → List AV → Prop} (h : v1 st K) : ∃ x r, st = .inl x :: r ∧ K x r := by
  unfold v1 at h
  split at h
  · exact ⟨_, _, rfl, h⟩
  · exact h.elim
theorem v2_of {st : List AV} {K : Int → Int → List AV → Prop} (h : v2 st K) : ∃ x y r, st = .inl y :: .inl x :: r ∧ K x y r := by
  unfold v2 at h
  split at h
  · exact ⟨_, _, _, rfl, h⟩
  · exact h.elim
theorem vA_of {st : List AV} {K : Nat → List AV → Prop} (h : vA st K) : ∃ a r, st = .inr a :: r ∧ K a r := by
  unfold vA at h
  split at h
  · exact ⟨_, _, rfl, h⟩
  · exact h.elim
theorem vIA_of {st : List AV} {K : Int → Nat → List AV → Prop} (h : vIA st K) : ∃ i a r, st = .inl i :: .inr a :: r ∧ K i a r := by
  unfold vIA at h
  split at h
  · exact ⟨_, _, _, rfl, h⟩
  · exact h.elim
theorem vIIA_of {st : List AV} {K : Int → Int → Nat → List AV → Prop} (h : vIIA st K) : ∃ x i a r, st = .inl x :: .inl i :: .inr a :: r ∧ K x i a r := by
  unfold vIIA at h
  split at h
  · exact ⟨_, _, _, _, rfl, h⟩
  · exact h.elim
theorem vtg_of {ts : List Nat} {K : Nat → Prop} (h : vtg ts K) : ∃ t, ts = [t] ∧ K t := by
  unfold vtg at h
  split at h
  · exact ⟨_, rfl, h⟩
  · exact h.elim
theorem vldI_of {ls : List (Option AV)} {k : Nat} {K : Int → Prop} (h : vldI ls k K) : ∃ x, ls[k]? = some (some (.inl x)) ∧ K x := by
  unfold vldI at h
  split at h
  next x e => exact ⟨x, e, h⟩
  · exact h.elim
theorem vldA_of {ls : List (Option AV)} {k : Nat} {K : Nat → Prop} (h : vldA ls k K) : ∃ a, ls[k]? = some (some (.inr a)) ∧ K a := by
  unfold vldA at h
  split at h
  next x e => exact ⟨x, e, h⟩
  · exact h.elim
theorem vtab_of {lo : Int} {us : List Nat} {x : Int} {K : Nat → Prop} (h : vtab lo us x K) (h0 : lo ≤ x) (h1 : x < lo + us.length) : ∃ u, us[(x - lo).toNat]? = some u ∧ K u := by
  induction us generalizing lo with
  | nil => simp at h1; omega
  | cons u r ih =>
    obtain ⟨a, b⟩ := h
    by_cases e : x = lo
    · refine ⟨u, ?_, a e⟩
      rw [show (x - lo).toNat = 0 by omega]; rfl
    · obtain ⟨v, c1, c2⟩ := ih b (by omega) (by simp at h1; omega)
      refine ⟨v, ?_, c2⟩
      rw [show (x - lo).toNat = (x - (lo + 1)).toNat + 1 by omega]
      simpa using c1
theorem st_push {st : List AV} {v : Int} (h : ∀ x, Sum.inl x ∈ st → inR x) (hv : inR v) : ∀ x, (Sum.inl x : AV) ∈ (.inl v :: st) → inR x := fun x hx => by
  rcases List.mem_cons.mp hx with e | e
  · cases e; exact hv
  · exact h x e
theorem st_pushA {st : List AV} {a : Nat} (h : ∀ x, Sum.inl x ∈ st → inR x) : ∀ x, (Sum.inl x : AV) ∈ (.inr a :: st) → inR x := fun x hx => by
  rcases List.mem_cons.mp hx with e | e
  · cases e
  · exact h x e
theorem st_tl {st : List AV} {v : AV} (h : ∀ x, (Sum.inl x : AV) ∈ (v :: st) → inR x) : ∀ x, Sum.inl x ∈ st → inR x := fun x hx => h x (List.mem_cons_of_mem _ hx)
theorem ls_set {ls : List (Option AV)} {k : Nat} {v : AV} (h : ∀ x, some (Sum.inl x) ∈ ls → inR x) (hv : ∀ x, v = .inl x → inR x) : ∀ x, some (Sum.inl x) ∈ ls.set k (some v) → inR x := fun x hx => by
  rcases List.mem_or_eq_of_mem_set hx with e | e
  · exact h x e
  · exact hv x (Option.some.inj e).symm
theorem b8 {v : Int} (h : -128 ≤ v) (h2 : v ≤ 127) : (Int8.ofInt v).toInt32 = I32 v := by
  apply Int32.toInt_inj.mp
  rw [I32_toInt ⟨by omega, by omega⟩, Int8.toInt_toInt32, Int8.toInt_ofInt_of_le (by omega) (by omega)]
theorem b16 {v : Int} (h : -32768 ≤ v) (h2 : v ≤ 32767) : (Int16.ofInt v).toInt32 = I32 v := by
  apply Int32.toInt_inj.mp
  rw [I32_toInt ⟨by omega, by omega⟩, Int16.toInt_toInt32, Int16.toInt_ofInt_of_le (by omega) (by omega)]
theorem inR_tdiv {x y : Int} (hx : inR x) (h0 : 0 ≤ x) (hy : 0 < y) : inR (x / y) := by
  have h1 : 0 ≤ x / y := Int.ediv_nonneg h0 (by omega)
  have h2 : x / y ≤ x := Int.ediv_le_self y h0
  exact ⟨by omega, by have := hx.2; omega⟩
theorem inR_tmod {x y : Int} (hx : inR y) (hy : 0 < y) : inR (x.tmod y) := by
  obtain ⟨h1, h2⟩ := tmod_bounds (a := x) hy
  exact ⟨by have := hx.2; omega, by have := hx.2; omega⟩
section SND
variable {p : Program} {l : Launch} {e : Env} {R : Room} {s : State} {m : MethodId} {args : Array Value} {below : List Frame} {meth : Method} {c : Code}
variable {cc : ByteArray} {nL : Nat} {own : String} {D : va_G} {cy : Nat → ClassId} {ad kd ln : Nat → Nat} {nc : Nat} {A : Nat → Prop} {cells slots : Nat} {ex : List (Nat × Value)} {H0 : Heap} {Q : State → Prop}
/-- the machine stands at pc with these locals, this stack, this memory: from there it comes to Q -/
def jSt (p : Program) (l : Launch) (e : Env) (R : Room) (s : State) (m : MethodId) (args : Array Value) (below : List Frame) (meth : Method) (c : Code) (nL : Nat) (D : va_G) (cy : Nat → ClassId) (ad kd ln : Nat → Nat) (nc : Nat) (A : Nat → Prop) (cells slots : Nat) (ex : List (Nat × Value)) (H0 : Heap) (Q : State → Prop) : KT := fun pc ls st M =>
  ∀ (H : Heap) (locs : List Loc) (lsC : Array Slot), (∀ a k, inR (M a k)) → (∀ x, some (Sum.inl x) ∈ ls → inR x) → (∀ x, Sum.inl x ∈ st → inR x) →
    va_P D vwCl (wld ad kd ln cy nc M) H → va_S A H0 H locs → jL ex ad lsC nL ls → W p l e R s m args below meth c H locs cells slots Q (F0 m pc lsC (st.map (cV ad)))
def jEnv (p : Program) (s : State) (m : MethodId) (args : Array Value) (c : Code) (cc : ByteArray) (nL : Nat) (own : String) (D : va_G) (cy : Nat → ClassId) : Prop :=
  p.tables.exec = Jvm.exec ∧ c.code = cc ∧ c.maxLocals = nL ∧ s.vm.findClass own = some m.cls ∧ (∀ w ∈ wtb, w.before args s = true) ∧ va_K D vwCl (tysJ cy) s
/-- what the method's end gives -/
def jEnd (p : Program) (l : Launch) (e : Env) (R : Room) (s : State) (m : MethodId) (args : Array Value) (below : List Frame) (meth : Method) (c : Code) (cc : ByteArray) (D : va_G) (cy : Nat → ClassId) (ad kd ln : Nat → Nat) (nc : Nat) (A : Nat → Prop) (cells slots : Nat) (H0 : Heap) (Q : State → Prop) (rty : Nat) (post : Int → Mem → Prop) : Prop :=
  ∀ (x : Int) (M : Mem) (H : Heap) (locs : List Loc) (lsC : Array Slot) (pc : Nat), post x M → inR x → (∀ a k, inR (M a k)) → va_P D vwCl (wld ad kd ln cy nc M) H → va_S A H0 H locs →
    (vret rty x → decode cc pc = .ok (.ireturn, 1) → W p l e R s m args below meth c H locs cells slots Q (F0 m pc lsC [.int (I32 x)])) ∧
    (rty = 4 → decode cc pc = .ok (.areturn, 1) → W p l e R s m args below meth c H locs cells slots Q (F0 m pc lsC [.ref (ad x.toNat)])) ∧
    (rty = 0 → decode cc pc = .ok (.return_, 1) → W p l e R s m args below meth c H locs cells slots Q (F0 m pc lsC []))
variable {tb : TB} {ft : List (Nat × Nat × Nat × Nat)} {cst : Nat → Int} {rty : Nat} {post : Int → Mem → Prop} {ct : List (Nat × CS)}
theorem step_snd (hE : jEnv p s m args c cc nL own D cy) (hW : jW kd ln nc) (hA : jA ad nc) (hF : ∀ a, a < nc → A (ad a)) (hxt : exT ex tb) (htb : tbOK cc tb = true) (htl : tbL tb = true) (hft : ftOK own ft = true) (hcst : ∀ j, cst j ≠ 0 → Cond.constant own j (I32 (cst j)) ∈ wtb ∧ inR (cst j)) (hcst2 : ∀ pc j n ts, tb.lookup pc = some (.ldc j, n, ts) → cst j ≠ 0)
    (hend : jEnd p l e R s m args below meth c cc D cy ad kd ln nc A cells slots H0 Q rty post)
    (hcl : ∀ (pc : Nat) (i : Instr) (n : Nat) (ts : List Nat), tb.lookup pc = some (i, n, ts) → (∃ j, i = .invokevirtual j ∨ i = .invokestatic j) → ∀ (ls : List (Option AV)) (st : List AV) (M : Mem) (K : List AV → Mem → Prop), vcall (ct.lookup pc) st M K →
      (∀ st' M', K st' M' → jSt p l e R s m args below meth c nL D cy ad kd ln nc A cells slots ex H0 Q (pc + n) ls st' M') → jSt p l e R s m args below meth c nL D cy ad kd ln nc A cells slots ex H0 Q pc ls st M)
    {pc : Nat} {i : Instr} {n : Nat} {ts : List Nat} (hl : tb.lookup pc = some (i, n, ts)) {ls : List (Option AV)} {st : List AV} {M : Mem} {K : KT}
    (h : vstep kd ln (ftl ft) cst rty post (ct.lookup pc) K pc i n ts ls st M) (hK : ∀ pc ls st M, K pc ls st M → jSt p l e R s m args below meth c nL D cy ad kd ln nc A cells slots ex H0 Q pc ls st M) :
    jSt p l e R s m args below meth c nL D cy ad kd ln nc A cells slots ex H0 Q pc ls st M := by
  obtain ⟨hdg, htg⟩ := tbOK_of htb hl
  have hln : lnOK i n = true := List.all_eq_true.mp htl _ (lookup_mem hl)
  have hcl := hcl pc i n ts hl
  obtain ⟨hx, hb, hml, hown, hts, hKv⟩ := id hE
  intro H locs lsC hM hls hst hP hS hL
  have hD : va_D A (wld ad kd ln cy nc M) := (wld_D hA).weaken (fun k q _ ⟨a, h1, h2⟩ => by rw [← h2]; exact hF a h1)
  have hxt := hxt pc i n ts hl
  unfold vstep at h
  split at h
  · -- iconst
    simp [lnOK] at hln; subst hln
    simp [tgOK] at htg
    exact lv_iconst hx hb hdg rfl (hK _ _ _ _ h H locs lsC hM hls (st_push hst ⟨by omega, by omega⟩) hP hS hL)
  · simp [lnOK] at hln; subst hln
    simp [tgOK] at htg
    exact lv_bipush hx hb hdg (b8 htg.1 htg.2) (hK _ _ _ _ h H locs lsC hM hls (st_push hst ⟨by omega, by omega⟩) hP hS hL)
  · simp [lnOK] at hln; subst hln
    simp [tgOK] at htg
    exact lv_sipush hx hb hdg (b16 htg.1 htg.2) (hK _ _ _ _ h H locs lsC hM hls (st_push hst ⟨by omega, by omega⟩) hP hS hL)
  · simp [lnOK] at hln; subst hln
    rename_i j
    obtain ⟨h1, h2⟩ := hcst j (hcst2 _ _ _ _ hl)
    exact lv_ldc hx hb hown (hts _ h1) hdg (hK _ _ _ _ h H locs lsC hM hls (st_push hst h2) hP hS hL)
  · simp [lnOK] at hln; subst hln
    obtain ⟨x, e1, h⟩ := vldI_of h
    exact lv_iload_n hx hb hdg rfl (jL_get hL e1) (hK _ _ _ _ h H locs lsC hM hls (st_push hst (hls x (List.mem_of_getElem? e1))) hP hS hL)
  · simp [lnOK] at hln; subst hln
    obtain ⟨x, e1, h⟩ := vldI_of h
    exact lv_iload hx hb hdg (jL_get hL e1) (hK _ _ _ _ h H locs lsC hM hls (st_push hst (hls x (List.mem_of_getElem? e1))) hP hS hL)
  · simp [lnOK] at hln; subst hln
    obtain ⟨x, e1, h⟩ := vldA_of h
    exact lv_aload_n hx hb hdg rfl (jL_get hL e1) (hK _ _ _ _ h H locs lsC hM hls (st_pushA hst) hP hS hL)
  · simp [lnOK] at hln; subst hln
    obtain ⟨x, e1, h⟩ := vldA_of h
    exact lv_aload hx hb hdg (jL_get hL e1) (hK _ _ _ _ h H locs lsC hM hls (st_pushA hst) hP hS hL)
  · simp [lnOK] at hln; subst hln
    obtain ⟨hi, h⟩ := bif_of h
    have hi := Nat.blt_eq.mp hi
    obtain ⟨x, r, rfl, h⟩ := v1_of h
    obtain ⟨hl1, lv, h1, h2, h3⟩ := hL
    exact lv_istore_n hx hb hdg rfl h1 (by omega) rfl (fun ls' hl' => hK _ _ _ _ h H locs ls' hM (ls_set hls (fun y hy => by cases hy; exact hst _ List.mem_cons_self)) (st_tl hst) hP hS (jL_set (v := .inl x) hl1 hi h2 h3 (hxt _ rfl) hl'))
  · simp [lnOK] at hln; subst hln
    obtain ⟨hi, h⟩ := bif_of h
    have hi := Nat.blt_eq.mp hi
    obtain ⟨x, r, rfl, h⟩ := v1_of h
    obtain ⟨hl1, lv, h1, h2, h3⟩ := hL
    exact lv_istore hx hb hdg h1 (by omega) rfl (fun ls' hl' => hK _ _ _ _ h H locs ls' hM (ls_set hls (fun y hy => by cases hy; exact hst _ List.mem_cons_self)) (st_tl hst) hP hS (jL_set (v := .inl x) hl1 hi h2 h3 (hxt _ rfl) hl'))
  · simp [lnOK] at hln; subst hln
    obtain ⟨hi, h⟩ := bif_of h
    have hi := Nat.blt_eq.mp hi
    obtain ⟨x, r, rfl, h⟩ := vA_of h
    obtain ⟨hl1, lv, h1, h2, h3⟩ := hL
    exact lv_astore_n hx hb hdg rfl h1 (by omega) rfl (fun ls' hl' => hK _ _ _ _ h H locs ls' hM (ls_set hls (fun y hy => by cases hy)) (st_tl hst) hP hS (jL_set (v := .inr x) hl1 hi h2 h3 (hxt _ rfl) hl'))
  · simp [lnOK] at hln; subst hln
    obtain ⟨hi, h⟩ := bif_of h
    have hi := Nat.blt_eq.mp hi
    obtain ⟨x, r, rfl, h⟩ := vA_of h
    obtain ⟨hl1, lv, h1, h2, h3⟩ := hL
    exact lv_astore hx hb hdg h1 (by omega) rfl (fun ls' hl' => hK _ _ _ _ h H locs ls' hM (ls_set hls (fun y hy => by cases hy)) (st_tl hst) hP hS (jL_set (v := .inr x) hl1 hi h2 h3 (hxt _ rfl) hl'))
  · simp [lnOK] at hln; subst hln
    obtain ⟨x, y, r, rfl, h0, h⟩ := v2_of h
    refine lv_iadd hx hb hdg ?_
    rw [I32_add]
    exact hK _ _ _ _ h H locs lsC hM hls (st_push (st_tl (st_tl hst)) h0) hP hS hL
  · simp [lnOK] at hln; subst hln
    obtain ⟨x, y, r, rfl, h0, h⟩ := v2_of h
    refine lv_isub hx hb hdg ?_
    rw [I32_sub]
    exact hK _ _ _ _ h H locs lsC hM hls (st_push (st_tl (st_tl hst)) h0) hP hS hL
  · simp [lnOK] at hln; subst hln
    obtain ⟨x, y, r, rfl, h0, h⟩ := v2_of h
    refine lv_imul hx hb hdg ?_
    rw [I32_mul]
    exact hK _ _ _ _ h H locs lsC hM hls (st_push (st_tl (st_tl hst)) h0) hP hS hL
  · simp [lnOK] at hln; subst hln
    obtain ⟨x, y, r, rfl, ⟨h0, h1⟩, h⟩ := v2_of h
    have ry : inR y := hst _ List.mem_cons_self
    have rx : inR x := hst _ (List.mem_cons_of_mem _ List.mem_cons_self)
    refine lv_idiv hx hb hdg (fun z => by have := (I32_eq ry inR_0).mp (z.trans I32_0.symm); omega) ?_
    rw [I32_div rx ry, Int.tdiv_eq_ediv_of_nonneg h0]
    exact hK _ _ _ _ h H locs lsC hM hls (st_push (st_tl (st_tl hst)) (inR_tdiv rx h0 h1)) hP hS hL
  · simp [lnOK] at hln; subst hln
    obtain ⟨x, y, r, rfl, h1, h⟩ := v2_of h
    have ry : inR y := hst _ List.mem_cons_self
    have rx : inR x := hst _ (List.mem_cons_of_mem _ List.mem_cons_self)
    refine lv_irem hx hb hdg (fun z => by have := (I32_eq ry inR_0).mp (z.trans I32_0.symm); omega) ?_
    rw [I32_rem rx ry]
    exact hK _ _ _ _ h H locs lsC hM hls (st_push (st_tl (st_tl hst)) (inR_tmod ry h1)) hP hS hL
  · simp [lnOK] at hln; subst hln
    obtain ⟨x, y, r, rfl, h⟩ := v2_of h
    refine lv_iand hx hb hdg ?_
    have := hK _ _ _ _ h H locs lsC hM hls (st_push (st_tl (st_tl hst)) (I32_inR _)) hP hS hL
    rw [List.map_cons, bAnd] at this
    simpa only [cV, I32_of] using this
  · simp [lnOK] at hln; subst hln
    obtain ⟨x, y, r, rfl, h⟩ := v2_of h
    refine lv_ior hx hb hdg ?_
    have := hK _ _ _ _ h H locs lsC hM hls (st_push (st_tl (st_tl hst)) (I32_inR _)) hP hS hL
    rw [List.map_cons, bOr] at this
    simpa only [cV, I32_of] using this
  · simp [lnOK] at hln; subst hln
    obtain ⟨x, y, r, rfl, h⟩ := v2_of h
    refine lv_ixor hx hb hdg ?_
    have := hK _ _ _ _ h H locs lsC hM hls (st_push (st_tl (st_tl hst)) (I32_inR _)) hP hS hL
    rw [List.map_cons, bXor] at this
    simpa only [cV, I32_of] using this
  · simp [lnOK] at hln; subst hln
    obtain ⟨x, y, r, rfl, h⟩ := v2_of h
    refine lv_ishl hx hb hdg ?_
    have := hK _ _ _ _ h H locs lsC hM hls (st_push (st_tl (st_tl hst)) (I32_inR _)) hP hS hL
    rw [List.map_cons, bShl] at this
    simpa only [cV, I32_of] using this
  · simp [lnOK] at hln; subst hln
    obtain ⟨x, y, r, rfl, h⟩ := v2_of h
    refine lv_ishr hx hb hdg ?_
    have := hK _ _ _ _ h H locs lsC hM hls (st_push (st_tl (st_tl hst)) (I32_inR _)) hP hS hL
    rw [List.map_cons, bShr] at this
    simpa only [cV, I32_of] using this
  · -- iinc
    simp [lnOK] at hln; subst hln
    obtain ⟨x, e1, h0, h⟩ := vldI_of h
    obtain ⟨hl1, lv, h1, h2, h3⟩ := hL
    obtain ⟨k0, hk0⟩ := List.getElem?_of_mem (h2 _ _ e1)
    have hi := (List.getElem?_eq_some_iff.mp e1).1
    exact lv_iinc hx hb hdg h1 (k := k0) hk0 (I32_add _ _) (by omega) rfl (fun ls' hl' => hK _ _ _ _ h H locs ls' hM (ls_set hls (fun y hy => by cases hy; exact h0)) hst hP hS (jL_set (v := .inl _) hl1 hi h2 h3 (hxt _ rfl) hl'))
  · -- i2c
    simp [lnOK] at hln; subst hln
    obtain ⟨x, r, rfl, ⟨c0, c1⟩, h⟩ := v1_of h
    have rx : inR x := hst _ List.mem_cons_self
    have e1 : I32 x = nI x.toNat := by
      show Int32.ofInt x = Int32.ofNat x.toNat
      rw [← Int32.ofInt_eq_ofNat]; congr 1; omega
    have e2 := (pk_charN (q := x.toNat) (by omega)).1
    refine lv_i2c (v := I32 x) hx hb hdg (by rw [e1]; exact Value.int.inj e2) ?_
    exact hK _ _ _ _ h H locs lsC hM hls (st_push (st_tl hst) rx) hP hS hL
  · -- dup
    simp [lnOK] at hln; subst hln
    split at h
    next v r =>
      exact lv_dup hx hb hdg (cV_cat v) (hK _ _ _ _ h H locs lsC hM hls (fun x hx => by rcases List.mem_cons.mp hx with e | e; exact hst x (e ▸ List.mem_cons_self); exact hst x e) hP hS hL)
    · exact h.elim
  · simp [lnOK] at hln; subst hln
    split at h
    next v r =>
      exact lv_pop hx hb hdg (cV_cat v) (hK _ _ _ _ h H locs lsC hM hls (st_tl hst) hP hS hL)
    · exact h.elim
  · -- goto
    simp [lnOK] at hln; subst hln
    obtain ⟨t, rfl, h⟩ := vtg_of h
    simp [tgOK] at htg
    exact lv_goto hx hb hdg htg (hK _ _ _ _ h H locs lsC hM hls hst hP hS hL)
  · -- ifCond
    rename_i cnd off
    simp [lnOK] at hln; subst hln
    obtain ⟨x, r, rfl, h⟩ := v1_of h
    obtain ⟨t, rfl, ht, hf⟩ := vtg_of h
    simp [tgOK] at htg
    have rx : inR x := hst _ List.mem_cons_self
    have kt := fun q => hK _ _ _ _ (ht q) H locs lsC hM hls (st_tl hst) hP hS hL
    have kf := fun q => hK _ _ _ _ (hf q) H locs lsC hM hls (st_tl hst) hP hS hL
    cases cnd
    · exact lv_if_eq hx hb hdg htg (fun q => kt ((I32_eq rx inR_0).mp (by rw [I32_0]; exact q))) (fun q => kf (fun z => q (by have := (I32_eq rx inR_0).mpr z; rwa [I32_0] at this)))
    · exact lv_if_ne hx hb hdg htg (fun q => kt (fun z => q (by have := (I32_eq rx inR_0).mpr z; rwa [I32_0] at this))) (fun q => kf (fun z => z ((I32_eq rx inR_0).mp (by rw [I32_0]; exact q))))
    · exact lv_if_lt hx hb hdg htg (fun q => kt ((I32_lt rx inR_0).mp (by rw [I32_0]; exact q))) (fun q => kf (fun z => q (by have := (I32_lt rx inR_0).mpr z; rwa [I32_0] at this)))
    · exact lv_if_ge hx hb hdg htg (fun q => kt ((I32_le inR_0 rx).mp (by rw [I32_0]; exact q))) (fun q => kf (fun z => q (by have := (I32_le inR_0 rx).mpr z; rwa [I32_0] at this)))
    · exact lv_if_gt hx hb hdg htg (fun q => kt ((I32_lt inR_0 rx).mp (by rw [I32_0]; exact q))) (fun q => kf (fun z => q (by have := (I32_lt inR_0 rx).mpr z; rwa [I32_0] at this)))
    · exact lv_if_le hx hb hdg htg (fun q => kt ((I32_le rx inR_0).mp (by rw [I32_0]; exact q))) (fun q => kf (fun z => q (by have := (I32_le rx inR_0).mpr z; rwa [I32_0] at this)))
  · -- if_icmp
    rename_i cnd off
    simp [lnOK] at hln; subst hln
    obtain ⟨x, y, r, rfl, h⟩ := v2_of h
    obtain ⟨t, rfl, ht, hf⟩ := vtg_of h
    simp [tgOK] at htg
    have ry : inR y := hst _ List.mem_cons_self
    have rx : inR x := hst _ (List.mem_cons_of_mem _ List.mem_cons_self)
    have kt := fun q => hK _ _ _ _ (ht q) H locs lsC hM hls (st_tl (st_tl hst)) hP hS hL
    have kf := fun q => hK _ _ _ _ (hf q) H locs lsC hM hls (st_tl (st_tl hst)) hP hS hL
    cases cnd
    · exact lv_icmp_eq hx hb hdg htg (fun q => kt ((I32_eq rx ry).mp q)) (fun q => kf (fun z => q ((I32_eq rx ry).mpr z)))
    · exact lv_icmp_ne hx hb hdg htg (fun q => kt (fun z => q ((I32_eq rx ry).mpr z))) (fun q => kf (fun z => z ((I32_eq rx ry).mp q)))
    · exact lv_icmp_lt hx hb hdg htg (fun q => kt ((I32_lt rx ry).mp q)) (fun q => kf (fun z => q ((I32_lt rx ry).mpr z)))
    · exact lv_icmp_ge hx hb hdg htg (fun q => kt ((I32_le ry rx).mp q)) (fun q => kf (fun z => q ((I32_le ry rx).mpr z)))
    · exact lv_icmp_gt hx hb hdg htg (fun q => kt ((I32_lt ry rx).mp q)) (fun q => kf (fun z => q ((I32_lt ry rx).mpr z)))
    · exact lv_icmp_le hx hb hdg htg (fun q => kt ((I32_le rx ry).mp q)) (fun q => kf (fun z => q ((I32_le rx ry).mpr z)))
  · -- tableswitch
    rename_i dflt lo hi0 offs
    obtain ⟨x, r, rfl, h⟩ := v1_of h
    split at h
    next d us =>
      obtain ⟨ho, hi⟩ := h
      simp only [tgOK, Bool.and_eq_true, decide_eq_true_eq] at htg
      obtain ⟨⟨⟨⟨t1, t2⟩, t3⟩, t4⟩, t5⟩ := htg
      have rx : inR x := hst _ List.mem_cons_self
      by_cases q1 : x < lo ∨ hi0 < x
      · exact lv_tableOut hx hb hdg (by rw [I32_toInt rx]; exact q1) t1 (hK _ _ _ _ (ho q1) H locs lsC hM hls (st_tl hst) hP hS hL)
      · obtain ⟨u, g1, g2⟩ := vtab_of hi (by omega) (by omega)
        have g3 : offs[((I32 x).toInt - lo).toNat]? = some ((u : Int) - (pc : Int)) := by
          rw [I32_toInt rx, ← Array.getElem?_toList, t5, List.getElem?_map, g1]; rfl
        exact lv_tableIn hx hb hdg (by rw [I32_toInt rx]; omega) (by rw [I32_toInt rx]; omega) g3 (by omega) (hK _ _ _ _ g2 H locs lsC hM hls (st_tl hst) hP hS hL)
    · exact h.elim
  · -- getfield
    simp [lnOK] at hln; subst hln
    rename_i j
    obtain ⟨a, r, rfl, hk, h⟩ := vA_of h
    obtain ⟨C, T, N, hc, hkN, hlink, hsame⟩ := ftOK_of hft (j := j) (ci := (ftl ft j).1) (k := (ftl ft j).2) rfl (by rw [← hk]; exact hW.2.2 a)
    obtain ⟨-, -, hin, hN, -, -⟩ := clsOK_of hc
    have hci : (ftl ft j).1 < 20 := Nat.lt_of_lt_of_le (lt_or_ge10 hc) (by decide)
    have ha : a < nc := hW.1 a (by rw [hk]; omega)
    have he : (wld ad kd ln cy nc M)[a]? = some (ad a, .inr ((ftl ft j).1, flds ad (ftl ft j).1 a M)) := by rw [wld_at ha, eOf_obj hk hci]
    rw [hN] at hkN
    refine va_get hx hb (Ts := wtb) hts hin hown hKv hP a he hc (ftl ft j).2 (by rw [hN]; exact hkN) (hts _ hlink) (fun z hz => by rw [hsame] at hz; exact hz) (flds_at hkN) hdg ?_
    cases hr : isRf (ftl ft j).1 (ftl ft j).2 with
    | true =>
      rw [hr] at h
      exact hK _ _ _ _ h H locs lsC hM hls (st_pushA (st_tl hst)) hP hS hL
    | false =>
      rw [hr] at h
      exact hK _ _ _ _ h H locs lsC hM hls (st_push (st_tl hst) (hM _ _)) hP hS hL
  · -- putfield
    simp [lnOK] at hln; subst hln
    rename_i j
    unfold vput at h
    split at h
    next x a r =>
      obtain ⟨hk, h⟩ := h
      obtain ⟨hrf, h⟩ := bifn_of h
      obtain ⟨C, T, N, hc, hkN, hlink, hsame⟩ := ftOK_of hft (j := j) (ci := (ftl ft j).1) (k := (ftl ft j).2) rfl (by rw [← hk]; exact hW.2.2 a)
      obtain ⟨⟨ty0, hty⟩, hnm, hin, hN, hI, -⟩ := clsOK_of hc
      obtain ⟨hd, hfin⟩ := hI _ hkN hrf
      have hci : (ftl ft j).1 < 20 := Nat.lt_of_lt_of_le (lt_or_ge10 hc) (by decide)
      have ha : a < nc := hW.1 a (by rw [hk]; omega)
      have he : (wld ad kd ln cy nc M)[a]? = some (ad a, .inr ((ftl ft j).1, flds ad (ftl ft j).1 a M)) := by rw [wld_at ha, eOf_obj hk hci]
      have hkN2 := hkN
      rw [hN] at hkN2
      have rx : inR x := hst _ List.mem_cons_self
      refine va_put hx hb (Ts := wtb) hts hin ty0 hty hnm hown hKv hP hD hS a he hc (ftl ft j).2 hkN (hts _ hlink) (fun z hz => by rw [hsame] at hz; exact hz) hfin hd (v := .int (I32 x)) rfl rfl (by rw [flds_len]; exact hkN2) hdg (fun H1 locs1 hP1 hD1 hS1 => ?_)
      rw [wld_set (f := upR (M a) (ftl ft j).2 x) (by rw [eOf_obj hk hci]; congr 2; exact flds_up hkN2 _ (by rw [hrf]; rfl))] at hP1
      exact hK _ _ _ _ h H1 locs1 lsC (up_inR hM rx) hls (st_tl (st_tl hst)) hP1 hS1 hL
    next b a r =>
      obtain ⟨hk, hkb, hb100, h⟩ := h
      obtain ⟨h86, h⟩ := bif_of h
      have h8 : (ftl ft j).1 = 8 := Nat.eq_of_beq_eq_true (Bool.and_eq_true _ _ ▸ h86).1
      have h67 : (ftl ft j).2 = 6 ∨ (ftl ft j).2 = 7 := by
        rcases (Bool.or_eq_true _ _ ▸ (Bool.and_eq_true _ _ ▸ h86).2) with q | q
        · exact Or.inl (Nat.eq_of_beq_eq_true q)
        · exact Or.inr (Nat.eq_of_beq_eq_true q)
      obtain ⟨C, T, N, hc, hkN, hlink, hsame⟩ := ftOK_of hft (j := j) (ci := (ftl ft j).1) (k := (ftl ft j).2) rfl (by rw [← hk]; exact hW.2.2 a)
      obtain ⟨⟨ty0, hty⟩, hnm, hin, hN, -, hI⟩ := clsOK_of hc
      obtain ⟨hd, hfin⟩ := hI h8 _ h67
      have hci : (ftl ft j).1 < 20 := Nat.lt_of_lt_of_le (lt_or_ge10 hc) (by decide)
      have ha : a < nc := hW.1 a (by rw [hk]; omega)
      have he : (wld ad kd ln cy nc M)[a]? = some (ad a, .inr ((ftl ft j).1, flds ad (ftl ft j).1 a M)) := by rw [wld_at ha, eOf_obj hk hci]
      have hkN2 := hkN
      rw [hN] at hkN2
      refine va_put hx hb (Ts := wtb) hts hin ty0 hty hnm hown hKv hP hD hS a he hc (ftl ft j).2 hkN (hts _ hlink) (fun z hz => by rw [hsame] at hz; exact hz) hfin hd (v := .ref (ad b)) rfl rfl (by rw [flds_len]; exact hkN2) hdg (fun H1 locs1 hP1 hD1 hS1 => ?_)
      rw [wld_set (f := upR (M a) (ftl ft j).2 (b : Int)) (by
        rw [eOf_obj hk hci]; congr 2
        refine flds_up (x := (b : Int)) hkN2 _ ?_
        rw [h8]
        have e1 : rfo 8 (ftl ft j).2 a (up M a (ftl ft j).2 (b : Int)) = b := by
          rcases h67 with q | q <;> rw [q] <;> simp [rfo, up_eq, upA_s, upR_s]
        rcases h67 with q | q <;> rw [q] at e1 ⊢ <;> simp only [isRf, cond_true, e1])] at hP1
      exact hK _ _ _ _ h H1 locs1 lsC (up_inR hM ⟨by omega, by omega⟩) hls (st_tl (st_tl hst)) hP1 hS1 hL
    · exact h.elim
  · -- iaload
    simp [lnOK] at hln; subst hln
    obtain ⟨x, a, r, rfl, hk, ⟨h0, h1⟩, h⟩ := vIA_of h
    have ha : a < nc := hW.1 a (by rw [hk]; omega)
    have rx : inR x := hst _ List.mem_cons_self
    have he : (wld ad kd ln cy nc M)[a]? = some (ad a, .inl (cy 21, ln a, .inl (fun j => I32 (M a j)))) := by rw [wld_at ha, eOf_arr hk (by omega) (by omega)]
    refine va_iald hx hb hKv hP a 1 he rfl (I32_vp rx h0 h1) hdg ?_
    rw [I32_clamp rx]
    exact hK _ _ _ _ h H locs lsC hM hls (st_push (st_tl (st_tl hst)) (hM _ _)) hP hS hL
  · simp [lnOK] at hln; subst hln
    obtain ⟨x, a, r, rfl, hk, ⟨h0, h1⟩, h⟩ := vIA_of h
    have ha : a < nc := hW.1 a (by rw [hk]; omega)
    have rx : inR x := hst _ List.mem_cons_self
    have he : (wld ad kd ln cy nc M)[a]? = some (ad a, .inl (cy 20, ln a, .inl (fun j => I32 (M a j)))) := by rw [wld_at ha, eOf_arr hk (by omega) (by omega)]
    refine va_cald hx hb hKv hP a 0 he rfl (I32_vp rx h0 h1) hdg ?_
    rw [I32_clamp rx]
    exact hK _ _ _ _ h H locs lsC hM hls (st_push (st_tl (st_tl hst)) (hM _ _)) hP hS hL
  · simp [lnOK] at hln; subst hln
    obtain ⟨x, a, r, rfl, hk, ⟨h0, h1⟩, h⟩ := vIA_of h
    have ha : a < nc := hW.1 a (by rw [hk]; omega)
    have rx : inR x := hst _ List.mem_cons_self
    have he : (wld ad kd ln cy nc M)[a]? = some (ad a, .inl (cy 22, ln a, .inl (fun j => I32 (M a j)))) := by rw [wld_at ha, eOf_arr hk (by omega) (by omega)]
    refine va_zald hx hb hKv hP a 2 he rfl (I32_vp rx h0 h1) hdg ?_
    rw [I32_clamp rx]
    exact hK _ _ _ _ h H locs lsC hM hls (st_push (st_tl (st_tl hst)) (hM _ _)) hP hS hL
  · -- aaload
    simp [lnOK] at hln; subst hln
    obtain ⟨x, a, r, rfl, hk, ⟨h0, h1⟩, h⟩ := vIA_of h
    have ha : a < nc := hW.1 a (by rw [hk]; omega)
    have rx : inR x := hst _ List.mem_cons_self
    have he : (wld ad kd ln cy nc M)[a]? = some (ad a, .inl (cy 23, ln a, .inr (.inr (.inr (.inr (fun i => some (ad (a + 1 + i)))))))) := by rw [wld_at ha, eOf_rows hk]
    have hin : vp_in (I32 x) (ln a) := I32_vp rx h0 h1
    have hlt : (I32 x).toNatClampNeg < ln a := Nat.not_le.mp fun q => hin (Or.inr q)
    refine W.aald (v := .ref (ad (a + 1 + x.toNat))) (ty := .array .int) hx hb (hP a _ he) ((hKv.2 3 _ rfl).1 (ln a) (fun j => va_rf (some (ad (a + 1 + j))))) rfl (fun q => by cases q) (by show ¬ (I32 x < 0 ∨ (arrV _ _ _).slots.size ≤ _); rw [arrV_size]; exact hin) (by show (arrV _ _ _).slots[_]? = _; rw [arrV_read _ _ hlt, I32_clamp rx]; rfl) rfl rfl hdg ?_
    exact hK _ _ _ _ h H locs lsC hM hls (st_pushA (st_tl (st_tl hst))) hP hS hL
  · -- iastore
    simp [lnOK] at hln; subst hln
    obtain ⟨y, x, a, r, rfl, hk, ⟨h0, h1⟩, h⟩ := vIIA_of h
    have ha : a < nc := hW.1 a (by rw [hk]; omega)
    have ry : inR y := hst _ List.mem_cons_self
    have rx : inR x := hst _ (List.mem_cons_of_mem _ List.mem_cons_self)
    have he : (wld ad kd ln cy nc M)[a]? = some (ad a, .inl (cy 21, ln a, .inl (fun j => I32 (M a j)))) := by rw [wld_at ha, eOf_arr hk (by omega) (by omega)]
    refine va_iast hx hb hKv hP hD hS a 1 he rfl (I32_vp rx h0 h1) hdg (fun H1 locs1 hP1 hD1 hS1 => ?_)
    rw [I32_clamp rx, ← upI, wld_set (f := upR (M a) x.toNat y) (by rw [eOf_arr hk (by omega) (by omega), upA_s])] at hP1
    exact hK _ _ _ _ h H1 locs1 lsC (up_inR hM ry) hls (st_tl (st_tl (st_tl hst))) hP1 hS1 hL
  · -- castore
    simp [lnOK] at hln; subst hln
    obtain ⟨y, x, a, r, rfl, hk, ⟨h0, h1⟩, ⟨c0, c1⟩, h⟩ := vIIA_of h
    have ha : a < nc := hW.1 a (by rw [hk]; omega)
    have ry : inR y := hst _ List.mem_cons_self
    have rx : inR x := hst _ (List.mem_cons_of_mem _ List.mem_cons_self)
    have he : (wld ad kd ln cy nc M)[a]? = some (ad a, .inl (cy 20, ln a, .inl (fun j => I32 (M a j)))) := by rw [wld_at ha, eOf_arr hk (by omega) (by omega)]
    have hn : vp_nar .char (I32 y) = I32 y := by
      have e1 : I32 y = nI y.toNat := by
        show Int32.ofInt y = Int32.ofNat y.toNat
        rw [← Int32.ofInt_eq_ofNat]; congr 1; omega
      have e2 := (pk_charN (q := y.toNat) (by omega)).1
      unfold vp_nar
      rw [e1, e2]
    refine va_cast hx hb hKv hP hD hS a 0 he rfl (I32_vp rx h0 h1) hdg (fun H1 locs1 hP1 hD1 hS1 => ?_)
    rw [hn, I32_clamp rx, ← upI, wld_set (f := upR (M a) x.toNat y) (by rw [eOf_arr hk (by omega) (by omega), upA_s])] at hP1
    exact hK _ _ _ _ h H1 locs1 lsC (up_inR hM ry) hls (st_tl (st_tl (st_tl hst))) hP1 hS1 hL
  · -- bastore
    simp [lnOK] at hln; subst hln
    obtain ⟨y, x, a, r, rfl, hk, ⟨h0, h1⟩, c0, h⟩ := vIIA_of h
    have ha : a < nc := hW.1 a (by rw [hk]; omega)
    have ry : inR y := hst _ List.mem_cons_self
    have rx : inR x := hst _ (List.mem_cons_of_mem _ List.mem_cons_self)
    have he : (wld ad kd ln cy nc M)[a]? = some (ad a, .inl (cy 22, ln a, .inl (fun j => I32 (M a j)))) := by rw [wld_at ha, eOf_arr hk (by omega) (by omega)]
    have hn : vp_nar .boolean (I32 y) = I32 y := by rcases c0 with rfl | rfl <;> decide
    refine va_zast hx hb hKv hP hD hS a 2 he rfl (I32_vp rx h0 h1) hdg (fun H1 locs1 hP1 hD1 hS1 => ?_)
    rw [hn, I32_clamp rx, ← upI, wld_set (f := upR (M a) x.toNat y) (by rw [eOf_arr hk (by omega) (by omega), upA_s])] at hP1
    exact hK _ _ _ _ h H1 locs1 lsC (up_inR hM ry) hls (st_tl (st_tl (st_tl hst))) hP1 hS1 hL
  · -- ireturn
    simp [lnOK] at hln; subst hln
    split at h
    next x => exact (hend x M H locs lsC pc h.2 (hst _ List.mem_cons_self) hM hP hS).1 h.1 hdg
    · exact h.elim
  · simp [lnOK] at hln; subst hln
    split at h
    next a => exact (hend (a : Int) M H locs lsC pc h.2.2 ⟨by omega, by omega⟩ hM hP hS).2.1 h.1 hdg
    · exact h.elim
  · simp [lnOK] at hln; subst hln
    split at h
    · exact (hend 0 M H locs lsC pc h.2 inR_0 hM hP hS).2.2 h.1 hdg
    · exact h.elim
  · exact hcl ⟨_, Or.inl rfl⟩ ls st M _ h (fun st' M' hk => hK _ _ _ _ hk) H locs lsC hM hls hst hP hS hL
  · exact hcl ⟨_, Or.inr rfl⟩ ls st M _ h (fun st' M' hk => hK _ _ _ _ hk) H locs lsC hM hls hst hP hS hL
  · exact h.elim
end SND
end
section
/-! ===== runs, loops, calls, whole methods ===== -/
theorem vc_snd {kd ln : Nat → Nat} {tb : TB} {ft : Nat → Nat × Nat} {cst : Nat → Int} {rty : Nat} {post : Int → Mem → Prop} {ct : List (Nat × CS)} {cuts : List Nat} {J S : KT}
    (hstep : ∀ (pc : Nat) (i : Instr) (n : Nat) (ts : List Nat), tb.lookup pc = some (i, n, ts) → ∀ (ls : List (Option AV)) (st : List AV) (M : Mem) (K : KT), vstep kd ln ft cst rty post (ct.lookup pc) K pc i n ts ls st M → (∀ pc ls st M, K pc ls st M → S pc ls st M) → S pc ls st M)
    (hJ : ∀ pc ls st M, J pc ls st M → S pc ls st M) : ∀ (f pc : Nat) (ls : List (Option AV)) (st : List AV) (M : Mem), vc kd ln tb ft cst rty post ct cuts J f pc ls st M → S pc ls st M := by
  intro f
  induction f with
  | zero => intro pc ls st M h; exact h.elim
  | succ f ih =>
    intro pc ls st M h
    unfold vc at h
    split at h
    next i n ts e =>
      refine hstep pc i n ts e ls st M _ h (fun pc' ls' st' M' hk => ?_)
      cases q : cuts.elem pc' with
      | true => rw [q] at hk; exact hJ _ _ _ _ hk
      | false => rw [q] at hk; exact ih _ _ _ _ hk
    · exact h.elim
/-- at a cut: what is said of this cut, with a measure -/
abbrev IT : Type := Nat → List (Option AV) → List AV → Mem → Nat → Prop
def jJ (I : IT) : KT := fun pc ls st M => ∃ μ, I pc ls st M μ
def jJ1 (I : IT) (n : Nat) : KT := fun pc ls st M => ∃ μ, μ < n ∧ I pc ls st M μ
def jrv (ad : Nat → Nat) (rty : Nat) (x : Int) : Option Value := match rty with
  | 0 => none
  | 4 => some (.ref (ad x.toNat))
  | _ => some (.int (I32 x))
def retOf (rty : Nat) (ret : Option FieldType) : Prop := match rty with
  | 0 => ret = none
  | 1 => ret = some .int
  | 2 => ret = some .boolean
  | 3 => ret = some .char
  | 4 => ∃ n, ret = some (.object n)
  | _ => False
def jQ (D : va_G) (cy : Nat → ClassId) (ad kd ln : Nat → Nat) (nc : Nat) (rty : Nat) (C : Int → Mem → Prop) : Array Value → State → Outcome → State → Prop := fun _ st oc t =>
  (∃ (x : Int) (M' : Mem), oc = .returned (jrv ad rty x) ∧ inR x ∧ (∀ a k, inR (M' a k)) ∧ C x M' ∧ va_P D vwCl (wld ad kd ln cy nc M') t.heap) ∧ va_F (FR ad nc) st t
/-- a method's contract in the small machine's words -/
def MetA (l : Launch) (D : va_G) (cy : Nat → ClassId) (ad kd ln : Nat → Nat) (nc : Nat) (y : MethodName) (code : ByteArray) (maxL : Nat) (ret : Option FieldType) (rm : Room) (rty : Nat) (P : List AV → Mem → Prop) (C : List AV → Mem → Int → Mem → Prop) : Prop :=
  ∀ (as : List AV) (M : Mem), P as M → (∀ a k, inR (M a k)) → (∀ x, Sum.inl x ∈ as → inR x) →
    Met l y (Cond.code y code maxL ret :: wtb) rm (va_Pc (as.map (cV ad)) (fun U => va_P D vwCl (wld ad kd ln cy nc M) U.heap ∧ va_K D vwCl (tysJ cy) U)) (jQ D cy ad kd ln nc rty (C as M)) 0 0 (FR ad nc)
def CalB (y : MethodName) (code : ByteArray) (maxL : Nat) (ret : Option FieldType) (n : Nat) : Prop :=
  Cond.code y code maxL ret ∈ lw_tbl ∧ Cond.initialized y.cls ∈ lw_tbl ∧ y.cls ≠ "java/lang/invoke/MethodHandle" ∧ y.cls ≠ "java/lang/invoke/VarHandle" ∧ (parseMethodDescriptor y.desc).map (fun d => d.parameters.length) = some n
def CalV (y : MethodName) (code : ByteArray) (maxL : Nat) (ret : Option FieldType) (n : Nat) : Prop := CalB y code maxL ret n ∧ Cond.instanceMethod y ∈ lw_tbl ∧ Cond.selects y.cls y y ∈ lw_tbl
def CalS (y : MethodName) (code : ByteArray) (maxL : Nat) (ret : Option FieldType) (n : Nat) : Prop := CalB y code maxL ret n ∧ Cond.static y ∈ lw_tbl
def RmOK (rm : Room) (maxL : Nat) (R : Room) : Prop := rm.cells = 0 ∧ rm.slots = 0 ∧ rm.frames + 1 ≤ R.frames ∧ 8 + (maxL + 11) + rm.locals ≤ R.locals
def SiteV (l : Launch) (D : va_G) (cy : Nat → ClassId) (ad kd ln : Nat → Nat) (nc : Nat) (own : String) (tb : TB) (R : Room) (pc : Nat) (cs : CS) : Prop :=
  ∃ (idx n : Nat) (y : MethodName) (code : ByteArray) (maxL : Nat) (ret : Option FieldType) (rm : Room), tb.lookup pc = some (.invokevirtual idx, 3, []) ∧ cs.1 = n + 1 ∧ MetA l D cy ad kd ln nc y code maxL ret rm cs.2.1 cs.2.2.1 cs.2.2.2 ∧ CalV y code maxL ret n ∧
    Cond.methodLink own idx y ∈ lw_tbl ∧ RmOK rm maxL R ∧ ∀ as M, cs.2.2.1 as M → ∃ a As q, as = .inr a :: As ∧ vwCl[kd a]? = some q ∧ q.1 = y.cls
def SiteS (l : Launch) (D : va_G) (cy : Nat → ClassId) (ad kd ln : Nat → Nat) (nc : Nat) (own : String) (tb : TB) (R : Room) (pc : Nat) (cs : CS) : Prop :=
  ∃ (idx n : Nat) (y : MethodName) (code : ByteArray) (maxL : Nat) (ret : Option FieldType) (rm : Room), tb.lookup pc = some (.invokestatic idx, 3, []) ∧ cs.1 = n ∧ MetA l D cy ad kd ln nc y code maxL ret rm cs.2.1 cs.2.2.1 cs.2.2.2 ∧ CalS y code maxL ret n ∧
    Cond.methodLink own idx y ∈ lw_tbl ∧ y.cls = own ∧ RmOK rm maxL R
/-- System.arraycopy of ints -/
def cpP (kd ln : Nat → Nat) (as : List AV) (_ : Mem) : Prop := match as with
  | [.inr a, .inl sp, .inr b, .inl dp, .inl n] => (kd a = 21 ∧ kd b = 21) ∧ (0 ≤ sp ∧ 0 ≤ dp ∧ 0 ≤ n) ∧ sp + n ≤ ln a ∧ dp + n ≤ ln b
  | _ => False
def cpF (f g : Nat → Int) (sp dp n : Nat) : Nat → Int := fun j => if dp ≤ j ∧ j < dp + n then f (sp + (j - dp)) else g j
def cpC (as : List AV) (M : Mem) (_ : Int) (M' : Mem) : Prop := match as with
  | [.inr a, .inl sp, .inr b, .inl dp, .inl n] => M' = upA M b (cpF (M a) (M b) sp.toNat dp.toNat n.toNat)
  | _ => False
def SiteC (kd ln : Nat → Nat) (own : String) (tb : TB) (R : Room) (pc : Nat) (cs : CS) : Prop :=
  ∃ idx, tb.lookup pc = some (.invokestatic idx, 3, []) ∧ cs = (5, 0, cpP kd ln, cpC) ∧ Cond.methodLink own idx arraycopyName ∈ lw_tbl ∧ Cond.native arraycopyName ∈ lw_tbl ∧ Cond.static arraycopyName ∈ lw_tbl ∧ Cond.initialized "java/lang/System" ∈ lw_tbl ∧ 1 ≤ R.frames ∧ 8 + (nativeFrameWords "java/lang/System" "arraycopy" 5 + 11) ≤ R.locals
theorem good_cons {big : List Cond} {y : MethodName} {code : ByteArray} {maxL : Nat} {ret : Option FieldType} (h : Cond.code y code maxL ret ∈ lw_tbl) : GoodIn wtb (Cond.code y code maxL ret :: wtb) := by
  intro w hw
  rcases List.mem_cons.mp hw with rfl | hw
  · exact ⟨wtb_in h rfl, good_of_word rfl⟩
  · exact ⟨hw, good_of_word (List.mem_filter.mp hw).2⟩
section MET
variable {p : Program} {l : Launch} {e : Env} {R : Room} {s : State} {m : MethodId} {args : Array Value} {below : List Frame} {meth : Method} {c : Code}
variable {cc : ByteArray} {nL : Nat} {own : String} {D : va_G} {cy : Nat → ClassId} {ad kd ln : Nat → Nat} {nc : Nat} {A : Nat → Prop} {cells slots : Nat} {ex : List (Nat × Value)} {H0 : Heap} {Q : State → Prop}
theorem jrv_push {rty : Nat} {x : Int} {r : List AV} : (vpush rty x r).map (cV ad) = (jrv ad rty x).toList ++ r.map (cV ad) := by
  match rty with
  | 0 => rfl
  | 1 => rfl
  | 2 => rfl
  | 3 => rfl
  | 4 => rfl
  | _ + 5 => rfl
theorem run_W {rty : Nat} {C : Int → Mem → Prop} {a : Array Value} {H : Heap} {locs : List Loc} {pc : Nat} {lsC : Array Slot} {st0 rest : List Value}
    (hr : va_Run p l e R s m args below meth c H locs cells slots 0 0 (F0 m pc lsC st0) rest (jQ D cy ad kd ln nc rty C a) (FR ad nc)) (hF : ∀ a, a < nc → A (ad a)) (hS : va_S A H0 H locs)
    (kk : ∀ (x : Int) (M' : Mem) (H1 : Heap) (locs1 : List Loc), inR x → (∀ a k, inR (M' a k)) → C x M' → va_P D vwCl (wld ad kd ln cy nc M') H1 → va_S A H0 H1 locs1 → W p l e R s m args below meth c H1 locs1 cells slots Q (F0 m (pc + 3) lsC ((jrv ad rty x).toList ++ rest))) :
    W p l e R s m args below meth c H locs cells slots Q (F0 m pc lsC st0) := by
  have hFA : ∀ q, FR ad nc q → A q := fun q ⟨a, h1, h2⟩ => by rw [← h2]; exact hF a h1
  intro T hT X
  obtain ⟨v, st₀, t, T', L, h0, X', hL, e1, e2, ⟨⟨x, M', hv, hx, hM', hC, hP⟩, hz, hk⟩, st⟩ := hr T hT X
  have hv2 : v = jrv ad rty x := Outcome.returned.inj hv
  subst hv2
  rw [h0] at hz hk
  obtain ⟨t2, a1, b1⟩ := kk x M' T'.heap (locs ++ L) hx hM' hC (by rw [e1]; exact hP)
    ⟨Nat.le_trans hS.1 (by rw [e1]; exact hz), fun q h1 h2 => by rw [e1, hk q (Nat.lt_of_lt_of_le h1 hS.1) (fun z => h2 (hFA q z))]; exact hS.2.1 q h1 h2, fun q hq => by
      rcases List.mem_append.mp hq with h | h
      · exact hS.2.2 q h
      · exact hFA _ (hL q h)⟩ T' rfl X'
  exact ⟨t2, st t2 a1, b1⟩
theorem cat_sum {ad : Nat → Nat} : ∀ r : List AV, ((r.map (cV ad)).map fun v => v.category).sum = r.length
  | [] => rfl
  | a :: r => by
    have := cat_sum (ad := ad) r
    simp only [List.map_cons, List.sum_cons, List.length_cons, cV_cat]
    simp only [List.map_map] at this ⊢
    omega
theorem st_split {ad : Nat → Nat} {st : List AV} {k : Nat} : st.map (cV ad) = ((st.take k).reverse.map (cV ad)).reverse ++ (st.drop k).map (cV ad) := by
  rw [List.map_reverse, List.reverse_reverse, ← List.map_append, List.take_append_drop]
theorem take_in {st : List AV} {k : Nat} (h : ∀ x, Sum.inl x ∈ st → inR x) : ∀ x, (Sum.inl x : AV) ∈ (st.take k).reverse → inR x := fun x hx => h x (List.mem_of_mem_take (List.mem_reverse.mp hx))
theorem drop_in {st : List AV} {k : Nat} {rt : Nat} {x : Int} (h : ∀ x, Sum.inl x ∈ st → inR x) (hx : inR x) : ∀ z, (Sum.inl z : AV) ∈ vpush rt x (st.drop k) → inR z := by
  intro z hz
  unfold vpush at hz
  split at hz
  · exact h z (List.mem_of_mem_drop hz)
  · rcases List.mem_cons.mp hz with q | q
    · cases q
    · exact h z (List.mem_of_mem_drop q)
  · rcases List.mem_cons.mp hz with q | q
    · cases q; exact hx
    · exact h z (List.mem_of_mem_drop q)
theorem siteV_snd {tb : TB} {pc : Nat} {cs : CS} (hF : ∀ a, a < nc → A (ad a)) (hcs : cells ≤ R.cells ∧ slots ≤ R.slots) (hE : jEnv p s m args c cc nL own D cy) (htb : tbOK cc tb = true) (hW : jW kd ln nc) (h : SiteV l D cy ad kd ln nc own tb R pc cs)
    {ls : List (Option AV)} {st : List AV} {M : Mem} {K : List AV → Mem → Prop} (hv : vcall (some cs) st M K) (hK : ∀ st' M', K st' M' → jSt p l e R s m args below meth c nL D cy ad kd ln nc A cells slots ex H0 Q (pc + 3) ls st' M') :
    jSt p l e R s m args below meth c nL D cy ad kd ln nc A cells slots ex H0 Q pc ls st M := by
  obtain ⟨idx, n, y, code, maxL, ret, rm, hl, hn, hmet, ⟨⟨w1, w2, w3, w4, w5⟩, w6, w7⟩, hlink, ⟨r1, r2, r3, r4⟩, hrecv⟩ := h
  obtain ⟨k, rt, P, C⟩ := cs
  dsimp only at hn hmet hrecv
  subst hn
  obtain ⟨hdg, -⟩ := tbOK_of htb hl
  obtain ⟨hx, hb, hml, hown, hts, hKv⟩ := id hE
  obtain ⟨g0, hP1, hk⟩ := bif_of hv
  have g1 := Nat.le_of_ble_eq_true (Bool.and_eq_true _ _ ▸ g0).1
  have g2 := Nat.le_of_ble_eq_true (Bool.and_eq_true _ _ ▸ g0).2
  intro H locs lsC hM hls hst hP hS hL
  obtain ⟨a, As, q, ha, hc, hcls⟩ := hrecv _ _ hP1
  have hnc : a < nc := hW.1 a (fun z => by rw [z] at hc; cases hc)
  have hci : kd a < 20 := Nat.lt_of_lt_of_le (lt_or_ge10 hc) (by decide)
  have he : (wld ad kd ln cy nc M)[a]? = some (ad a, .inr (kd a, flds ad (kd a) a M)) := by rw [wld_at hnc, eOf_obj rfl hci]
  have hr := va_recv hKv hP hc he
  rw [hcls] at hr
  have hT : GoodIn wtb (wsV own idx y.cls y (Cond.code y code maxL ret :: wtb)) := by
    intro w hw
    unfold wsV at hw
    rcases List.mem_append.mp hw with hw | hw
    · simp only [List.mem_cons, List.not_mem_nil, or_false] at hw
      rcases hw with rfl | rfl | rfl | rfl
      · exact ⟨wtb_in hlink rfl, good_of_word rfl⟩
      · exact ⟨wtb_in w6 rfl, good_of_word rfl⟩
      · exact ⟨wtb_in w7 rfl, good_of_word rfl⟩
      · exact ⟨wtb_in w2 rfl, good_of_word rfl⟩
    · exact good_cons (big := wtb) w1 w hw
  have hlenA : As.length = n := by
    have h1 := congrArg List.length ha
    rw [List.length_reverse, List.length_take, Nat.min_eq_left g1] at h1
    simp at h1
    exact h1.symm
  have hrun := va_runV (p := p) (l := l) (e := e) (R := R) (s := s) (m := m) (args := args) (below := below) (meth := meth) (c := c) (H := H) (locs := locs) (cells := cells) (slots := slots) (mc := 0) (ms := 0) (C := y.cls) (b := ad a) (As := As.map (cV ad)) (rest := (st.drop (n + 1)).map (cV ad)) (g := F0 m pc lsC (st.map (cV ad)))
    ⟨hx, hb, hml, hown, hts⟩ (hmet _ M hP1 hM (take_in hst)) (cwV n hts hT rfl r1 r2 ⟨rfl, w3, w4, w5⟩ ⟨r3, r4⟩)
    ⟨fun a U g mk q => ⟨q.1, q.2.1, va_K.moved (u := U) (U := U.calling g mk a) (Vm.Alike.refl U.vm) q.2.2⟩, hr, fun U hU hW2 => ⟨by rw [ha]; rfl, by rw [hU]; exact hP, va_K.moved hW2.alike hKv⟩⟩
    rfl (by rw [List.length_map]; exact hlenA) (by
      obtain ⟨z1, lv, z2, -⟩ := hL
      exact z2.1) (by
      show st.map (cV ad) = _
      rw [st_split (k := n + 1), ha]
      simp [cV]) (by
      show 2 * 0 + _ ≤ 8
      rw [cat_sum, List.length_drop]; omega) hdg hcs
  refine run_W hrun hF hS (fun x M' H1 locs1 hx1 hM1 hC1 hP2 hS1 => ?_)
  rw [← jrv_push]
  exact hK _ _ (hk x M' hx1 hM1 hC1) H1 locs1 lsC hM1 hls (drop_in hst hx1) hP2 hS1 hL
theorem siteS_snd {tb : TB} {pc : Nat} {cs : CS} (hF : ∀ a, a < nc → A (ad a)) (hcs : cells ≤ R.cells ∧ slots ≤ R.slots) (hE : jEnv p s m args c cc nL own D cy) (htb : tbOK cc tb = true) (h : SiteS l D cy ad kd ln nc own tb R pc cs)
    {ls : List (Option AV)} {st : List AV} {M : Mem} {K : List AV → Mem → Prop} (hv : vcall (some cs) st M K) (hK : ∀ st' M', K st' M' → jSt p l e R s m args below meth c nL D cy ad kd ln nc A cells slots ex H0 Q (pc + 3) ls st' M') :
    jSt p l e R s m args below meth c nL D cy ad kd ln nc A cells slots ex H0 Q pc ls st M := by
  obtain ⟨idx, n, y, code, maxL, ret, rm, hl, hn, hmet, ⟨⟨w1, w2, w3, w4, w5⟩, w6⟩, hlink, hcls, ⟨r1, r2, r3, r4⟩⟩ := h
  obtain ⟨k, rt, P, C⟩ := cs
  dsimp only at hn hmet
  subst hn
  obtain ⟨hdg, -⟩ := tbOK_of htb hl
  obtain ⟨hx, hb, hml, hown, hts, hKv⟩ := id hE
  obtain ⟨g0, hP1, hk⟩ := bif_of hv
  have g1 := Nat.le_of_ble_eq_true (Bool.and_eq_true _ _ ▸ g0).1
  have g2 := Nat.le_of_ble_eq_true (Bool.and_eq_true _ _ ▸ g0).2
  intro H locs lsC hM hls hst hP hS hL
  have hT : GoodIn wtb (wsS own idx y (Cond.code y code maxL ret :: wtb)) := by
    intro w hw
    unfold wsS at hw
    rcases List.mem_append.mp hw with hw | hw
    · simp only [List.mem_cons, List.not_mem_nil, or_false] at hw
      rcases hw with rfl | rfl | rfl
      · exact ⟨wtb_in hlink rfl, good_of_word rfl⟩
      · exact ⟨wtb_in w6 rfl, good_of_word rfl⟩
      · rw [← hcls]; exact ⟨wtb_in w2 rfl, good_of_word rfl⟩
    · exact good_cons (big := wtb) w1 w hw
  have hrun := va_runS (p := p) (l := l) (e := e) (R := R) (s := s) (m := m) (args := args) (below := below) (meth := meth) (c := c) (H := H) (locs := locs) (cells := cells) (slots := slots) (mc := 0) (ms := 0) (As := (st.take k).reverse.map (cV ad)) (rest := (st.drop k).map (cV ad)) (g := F0 m pc lsC (st.map (cV ad)))
    ⟨hx, hb, hml, hown, hts⟩ (hmet _ M hP1 hM (take_in hst)) (cwS k hts hT rfl r1 r2 ⟨hcls, w3, w4, w5⟩ ⟨r3, r4⟩)
    ⟨fun a U g mk q => ⟨q.1, q.2.1, va_K.moved (u := U) (U := U.calling g mk a) (Vm.Alike.refl U.vm) q.2.2⟩, fun U hU hW2 => ⟨rfl, by rw [hU]; exact hP, va_K.moved hW2.alike hKv⟩⟩
    rfl (by rw [List.length_map, List.length_reverse, List.length_take, Nat.min_eq_left g1]) (by
      obtain ⟨z1, lv, z2, -⟩ := hL
      exact z2.1) st_split (by
      show 2 * 0 + _ ≤ 8
      rw [cat_sum, List.length_drop]; omega) hdg hcs
  refine run_W hrun hF hS (fun x M' H1 locs1 hx1 hM1 hC1 hP2 hS1 => ?_)
  rw [← jrv_push]
  exact hK _ _ (hk x M' hx1 hM1 hC1) H1 locs1 lsC hM1 hls (drop_in hst hx1) hP2 hS1 hL
theorem siteC_snd {tb : TB} {pc : Nat} {cs : CS} (hF : ∀ a, a < nc → A (ad a)) (hcs : cells ≤ R.cells ∧ slots ≤ R.slots) (hE : jEnv p s m args c cc nL own D cy) (htb : tbOK cc tb = true) (hW : jW kd ln nc) (hA : jA ad nc) (h : SiteC kd ln own tb R pc cs)
    {ls : List (Option AV)} {st : List AV} {M : Mem} {K : List AV → Mem → Prop} (hv : vcall (some cs) st M K) (hK : ∀ st' M', K st' M' → jSt p l e R s m args below meth c nL D cy ad kd ln nc A cells slots ex H0 Q (pc + 3) ls st' M') :
    jSt p l e R s m args below meth c nL D cy ad kd ln nc A cells slots ex H0 Q pc ls st M := by
  obtain ⟨idx, hl, rfl, w1, w2, w3, w4, r1, r2⟩ := h
  obtain ⟨hdg, -⟩ := tbOK_of htb hl
  obtain ⟨hx, hb, hml, hown, hts, hKv⟩ := id hE
  obtain ⟨g0, hP1, hk⟩ := bif_of hv
  have g1 := Nat.le_of_ble_eq_true (Bool.and_eq_true _ _ ▸ g0).1
  have g2 := Nat.le_of_ble_eq_true (Bool.and_eq_true _ _ ▸ g0).2
  intro H locs lsC hM hls hst hP hS hL
  have hD : va_D A (wld ad kd ln cy nc M) := (wld_D hA).weaken (fun k q _ ⟨a, h1, h2⟩ => by rw [← h2]; exact hF a h1)
  match st, g1, g2, hP1, hk, hst with
  | v1 :: v2 :: v3 :: v4 :: v5 :: r, g1, g2, hP1, hk, hst =>
    match v1, v2, v3, v4, v5, hP1, hk, hst with
    | .inl n, .inl dp, .inr b, .inl sp, .inr a, hP1, hk, hst =>
      obtain ⟨⟨ka, kb⟩, ⟨q1, q2, q3⟩, q4, q5⟩ := hP1
      have ha : a < nc := hW.1 a (by rw [ka]; omega)
      have hb2 : b < nc := hW.1 b (by rw [kb]; omega)
      have hea : (wld ad kd ln cy nc M)[a]? = some (ad a, .inl (cy 21, ln a, .inl (fun j => I32 (M a j)))) := by rw [wld_at ha, eOf_arr ka (by omega) (by omega)]
      have heb : (wld ad kd ln cy nc M)[b]? = some (ad b, .inl (cy 21, ln b, .inl (fun j => I32 (M b j)))) := by rw [wld_at hb2, eOf_arr kb (by omega) (by omega)]
      have rn : inR n := hst _ (by simp)
      have rdp : inR dp := hst _ (by simp)
      have rsp : inR sp := hst _ (by simp)
      have nz : ∀ {z : Int}, inR z → 0 ≤ z → ¬ I32 z < 0 := fun hz h0 q => by
        rw [← I32_0] at q
        have := (I32_lt hz inR_0).mp q
        omega
      refine va_copyi hx hb (by obtain ⟨z1, lv, z2, -⟩ := hL; rw [hml, z2.1]) hown (hts _ (wtb_in w1 rfl)) (hts _ (wtb_in w2 rfl)) (hts _ (wtb_in w3 rfl)) (hts _ (wtb_in w4 rfl)) hKv hP hD hS a b 1 1 hea heb rfl rfl rfl (nz rsp q1) (nz rdp q2) (nz rn q3) (by rw [I32_clamp rsp, I32_clamp rn]; omega) (by rw [I32_clamp rdp, I32_clamp rn]; omega) (fun _ _ => rfl) r1 (by
        rw [cat_sum]
        have : r.length ≤ 8 := by simp at g2; omega
        omega) hdg (fun H1 locs1 hP1 hD1 hS1 => ?_)
      have e1 : va_cpy (fun j => I32 (M a j)) (fun j => I32 (M b j)) (I32 sp).toNatClampNeg (I32 dp).toNatClampNeg (I32 n).toNatClampNeg = fun j => I32 (cpF (M a) (M b) sp.toNat dp.toNat n.toNat j) := by
        rw [I32_clamp rsp, I32_clamp rdp, I32_clamp rn]
        funext j
        unfold va_cpy cpF
        split <;> rfl
      rw [e1, wld_set (f := cpF (M a) (M b) sp.toNat dp.toNat n.toNat) (by rw [eOf_arr kb (by omega) (by omega), upA_s])] at hP1
      have hM1 : ∀ c j, inR (upA M b (cpF (M a) (M b) sp.toNat dp.toNat n.toNat) c j) := fun c j => by
        by_cases e2 : c = b
        · rw [e2, upA_s]
          unfold cpF
          split <;> exact hM _ _
        · rw [upA_n e2]; exact hM _ _
      exact hK _ _ (hk 0 _ inR_0 hM1 rfl) H1 locs1 lsC hM1 hls (st_tl (st_tl (st_tl (st_tl (st_tl hst))))) hP1 hS1 hL
/-- any place where a call may stand -/
def Site (l : Launch) (D : va_G) (cy : Nat → ClassId) (ad kd ln : Nat → Nat) (nc : Nat) (own : String) (tb : TB) (R : Room) (pc : Nat) (cs : CS) : Prop :=
  SiteV l D cy ad kd ln nc own tb R pc cs ∨ SiteS l D cy ad kd ln nc own tb R pc cs ∨ SiteC kd ln own tb R pc cs
theorem site_snd {tb : TB} {pc : Nat} {cs : CS} (hF : ∀ a, a < nc → A (ad a)) (hcs : cells ≤ R.cells ∧ slots ≤ R.slots) (hE : jEnv p s m args c cc nL own D cy) (htb : tbOK cc tb = true) (hW : jW kd ln nc) (hA : jA ad nc) (h : Site l D cy ad kd ln nc own tb R pc cs)
    {ls : List (Option AV)} {st : List AV} {M : Mem} {K : List AV → Mem → Prop} (hv : vcall (some cs) st M K) (hK : ∀ st' M', K st' M' → jSt p l e R s m args below meth c nL D cy ad kd ln nc A cells slots ex H0 Q (pc + 3) ls st' M') :
    jSt p l e R s m args below meth c nL D cy ad kd ln nc A cells slots ex H0 Q pc ls st M := by
  rcases h with h | h | h
  · exact siteV_snd hF hcs hE htb hW h hv hK
  · exact siteS_snd hF hcs hE htb h hv hK
  · exact siteC_snd hF hcs hE htb hW hA h hv hK
theorem end_snd {rty : Nat} {post : Int → Mem → Prop} {ret : Option FieldType} (hE : jEnv p s m args c cc nL own D cy) (hr : meth.sig.returnType = ret) (hret : retOf rty ret) (hlocks : meth.locks = false) :
    jEnd p l e R s m args below meth c cc D cy ad kd ln nc (FR ad nc) 0 0 s.heap (MQ below (jQ D cy ad kd ln nc rty post) args s 0 0 (FR ad nc)) rty post := by
  obtain ⟨hx, hb, -, -, -, -⟩ := id hE
  intro x M H locs lsC pc hp rx hM hP hS
  have key : ∀ (t : State), t.heap = H → jQ D cy ad kd ln nc rty post args s (.returned (jrv ad rty x)) t := fun t ht => ⟨⟨x, M, rfl, rx, hM, hp, by rw [ht]; exact hP⟩, hS.F ht⟩
  refine ⟨fun hv hdg => ?_, fun h4 hdg => ?_, fun h0 hdg => ?_⟩
  · match rty, hret, hv, key with
    | 1, hret, hv, key => exact W.zret (ty := .int) hx hb (hr.trans hret) rfl (fun t ht _ => key t ht) hS.2.2 hdg
    | 2, hret, hv, key => exact W.zret (ty := .boolean) hx hb (hr.trans hret) (by rcases hv with rfl | rfl <;> decide) (fun t ht _ => key t ht) hS.2.2 hdg
    | 3, hret, hv, key =>
      refine W.zret (ty := .char) hx hb (hr.trans hret) ?_ (fun t ht _ => key t ht) hS.2.2 hdg
      have e1 : I32 x = nI x.toNat := by
        show Int32.ofInt x = Int32.ofNat x.toNat
        rw [← Int32.ofInt_eq_ofNat]; congr 1; have := hv.1; omega
      rw [e1]
      exact (pk_charN (q := x.toNat) (by have := hv.2; omega)).1
  · subst h4
    obtain ⟨nm, hn⟩ := hret
    exact W.aret (v := .ref (ad x.toNat)) hx hb (hr.trans hn) (Or.inl ⟨_, rfl⟩) (Or.inr ⟨_, rfl⟩) (fun t ht _ => key t ht) hS.2.2 hdg
  · subst h0
    exact W.vret hx hb (hr.trans hret) (fun t ht _ => key t ht) hS.2.2 hdg
end MET
/-- a whole method: from its entry to the cuts, from each cut to the next with a smaller measure, or to the end -/
theorem met_of {l : Launch} {D : va_G} {cy : Nat → ClassId} {ad kd ln : Nat → Nat} {nc : Nat} {y : MethodName} {code : ByteArray} {maxL : Nat} {ret : Option FieldType} {rm : Room} {rty : Nat} {P : List AV → Mem → Prop} {C : List AV → Mem → Int → Mem → Prop}
    {tb : TB} {ft : List (Nat × Nat × Nat × Nat)} {cst : Nat → Int} {ct : List (Nat × CS)} {cuts : List Nat} (F : Nat) (I : List AV → Mem → IT)
    (hA : jA ad nc) (hW : jW kd ln nc) (hy : plainName y.cls = true) (htb : tbOK code tb = true) (htl : tbL tb = true) (hft : ftOK y.cls ft = true) (hcst : ∀ j, cst j ≠ 0 → Cond.constant y.cls j (I32 (cst j)) ∈ wtb ∧ inR (cst j)) (hcst2 : ∀ pc j n ts, tb.lookup pc = some (.ldc j, n, ts) → cst j ≠ 0)
    (hret : retOf rty ret) (hct : ∀ q ∈ ct, Site l D cy ad kd ln nc y.cls tb rm q.1 q.2)
    (hlen : ∀ as M, P as M → as.length ≤ maxL)
    (hent : ∀ as M, P as M → (∀ a k, inR (M a k)) → (∀ x, Sum.inl x ∈ as → inR x) → vc kd ln tb (ftl ft) cst rty (C as M) ct cuts (jJ (I as M)) F 0 (as.map some ++ List.replicate (maxL - as.length) none) [] M)
    (hcut : ∀ as M, P as M → (∀ a k, inR (M a k)) → (∀ x, Sum.inl x ∈ as → inR x) → ∀ pc ls st M' n, I as M pc ls st M' n → (∀ a k, inR (M' a k)) → vc kd ln tb (ftl ft) cst rty (C as M) ct cuts (jJ1 (I as M) n) F pc ls st M') :
    MetA l D cy ad kd ln nc y code maxL ret rm rty P C := by
  intro as M hP hM has
  refine Met.ofW (cc := code) (maxL := maxL) (ret := ret) hy rfl ?_
  intro p e s m args below meth c s₁ B hml hv
  obtain ⟨rfl, hPw, hK⟩ := hv
  have hts := atoms_spec (ws := Cond.code y code maxL ret :: wtb) B.pre
  have hown : s.vm.findClass y.cls = some m.cls := findClass_of_methodNamed B.named
  have hE : jEnv p s m (as.map (cV ad)).toArray c code maxL y.cls D cy := ⟨B.exec, B.bytes, hml, hown, fun w hw => hts w (List.mem_cons_of_mem _ hw), hK⟩
  have hend := end_snd (l := l) (e := e) (R := rm) (below := below) (ad := ad) (kd := kd) (ln := ln) (nc := nc) (post := C as M) hE B.returns hret B.notSynchronized
  have hcl : ∀ (pc : Nat) (i : Instr) (n : Nat) (ts : List Nat), tb.lookup pc = some (i, n, ts) → (∃ j, i = .invokevirtual j ∨ i = .invokestatic j) → ∀ (ls : List (Option AV)) (st : List AV) (N : Mem) (K : List AV → Mem → Prop), vcall (ct.lookup pc) st N K →
      (∀ st' M', K st' M' → jSt p l e rm s m (as.map (cV ad)).toArray below meth c maxL D cy ad kd ln nc (FR ad nc) 0 0 [] s.heap (MQ below (jQ D cy ad kd ln nc rty (C as M)) (as.map (cV ad)).toArray s 0 0 (FR ad nc)) (pc + n) ls st' M') → jSt p l e rm s m (as.map (cV ad)).toArray below meth c maxL D cy ad kd ln nc (FR ad nc) 0 0 [] s.heap (MQ below (jQ D cy ad kd ln nc rty (C as M)) (as.map (cV ad)).toArray s 0 0 (FR ad nc)) pc ls st N := by
    intro pc i n ts hl hi ls st N K hv hK
    have hn : n = 3 := by
      have := List.all_eq_true.mp htl _ (lookup_mem hl)
      obtain ⟨j, rfl | rfl⟩ := hi <;> simpa [lnOK] using this
    subst hn
    cases hc : ct.lookup pc with
    | none => rw [hc] at hv; exact hv.elim
    | some cs =>
      rw [hc] at hv
      exact site_snd (fun a ha => ⟨a, ha, rfl⟩) ⟨Nat.zero_le _, Nat.zero_le _⟩ hE htb hW hA (hct _ (lookup_mem hc)) hv hK
  have hstep := fun (pc : Nat) (i : Instr) (n : Nat) (ts : List Nat) (hl : tb.lookup pc = some (i, n, ts)) (ls : List (Option AV)) (st : List AV) (N : Mem) (K : KT) h hK => step_snd hE hW hA (fun a ha => ⟨a, ha, rfl⟩) exT_nil htb htl hft hcst hcst2 hend hcl hl (ls := ls) (st := st) (M := N) (K := K) h hK
  have hloop : ∀ (n : Nat) (pc : Nat) (ls : List (Option AV)) (st : List AV) (M' : Mem), I as M pc ls st M' n → jSt p l e rm s m (as.map (cV ad)).toArray below meth c maxL D cy ad kd ln nc (FR ad nc) 0 0 [] s.heap (MQ below (jQ D cy ad kd ln nc rty (C as M)) (as.map (cV ad)).toArray s 0 0 (FR ad nc)) pc ls st M' := by
    intro n
    induction n using Nat.strongRecOn with
    | ind n ih =>
      intro pc ls st M' hI H locs lsC hM' hls hst hP' hS' hL'
      refine vc_snd hstep ?_ F pc ls st M' (hcut as M hP hM has pc ls st M' n hI hM') H locs lsC hM' hls hst hP' hS' hL'
      rintro pc ls st M2 ⟨μ, hμ, hI2⟩
      exact ih μ hμ pc ls st M2 hI2
  have hall := vc_snd hstep (J := jJ (I as M)) (by
    rintro pc ls st M2 ⟨μ, hI2⟩
    exact hloop μ pc ls st M2 hI2) F 0 _ [] M (hent as M hP hM has)
  rw [lg_entry_eq]
  refine hall s.heap [] _ hM (fun x hx => ?_) (fun x hx => by cases hx) hPw va_S.rf (jL_entry (hlen as M hP))
  rcases List.mem_append.mp hx with h | h
  · obtain ⟨v, h1, h2⟩ := List.mem_map.mp h
    cases h2
    exact has x h1
  · have := List.eq_of_mem_replicate h
    cases this
end
