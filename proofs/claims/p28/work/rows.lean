section
-- ===== PART A: goes FIRST, ahead of the names: the tables' words, and 'selects' of the private methods out of them =====
/-- a private method of a class that the tables say can be made, by its rows of tables_1 -/
def lw_okq (q : MethodName × Nat) : Prop := (q.1.cls ≠ "java/lang/invoke/MethodHandle" ∧ q.1.cls ≠ "java/lang/invoke/VarHandle") ∧ Cond.instantiable q.1.cls q.2 ∈ tables_1 ∧ Cond.privateMethod q.1 ∈ tables_1 ∧ Cond.instanceMethod q.1 ∈ tables_1
theorem lw_p0 : lw_okq (⟨"SlabYard", "freeCells", "()I"⟩, 12) := ⟨⟨by decide +kernel, by decide +kernel⟩, List.mem_of_getElem? (i := 11) (by decide +kernel), List.mem_of_getElem? (i := 299) (by decide +kernel), List.mem_of_getElem? (i := 300) (by decide +kernel)⟩
theorem lw_p1 : lw_okq (⟨"SlabYard", "markCell", "(I)I"⟩, 12) := ⟨⟨by decide +kernel, by decide +kernel⟩, List.mem_of_getElem? (i := 11) (by decide +kernel), List.mem_of_getElem? (i := 574) (by decide +kernel), List.mem_of_getElem? (i := 575) (by decide +kernel)⟩
theorem lw_p2 : lw_okq (⟨"SlabYard", "markTrue", "(I)I"⟩, 12) := ⟨⟨by decide +kernel, by decide +kernel⟩, List.mem_of_getElem? (i := 11) (by decide +kernel), List.mem_of_getElem? (i := 578) (by decide +kernel), List.mem_of_getElem? (i := 579) (by decide +kernel)⟩
theorem lw_p3 : lw_okq (⟨"SlabYard", "markLow", "(I)I"⟩, 12) := ⟨⟨by decide +kernel, by decide +kernel⟩, List.mem_of_getElem? (i := 11) (by decide +kernel), List.mem_of_getElem? (i := 583) (by decide +kernel), List.mem_of_getElem? (i := 584) (by decide +kernel)⟩
theorem lw_p4 : lw_okq (⟨"SlabYard", "markRocking", "(I)I"⟩, 12) := ⟨⟨by decide +kernel, by decide +kernel⟩, List.mem_of_getElem? (i := 11) (by decide +kernel), List.mem_of_getElem? (i := 588) (by decide +kernel), List.mem_of_getElem? (i := 589) (by decide +kernel)⟩
theorem lw_p5 : lw_okq (⟨"SlabYard", "markCut", "(I)I"⟩, 12) := ⟨⟨by decide +kernel, by decide +kernel⟩, List.mem_of_getElem? (i := 11) (by decide +kernel), List.mem_of_getElem? (i := 593) (by decide +kernel), List.mem_of_getElem? (i := 594) (by decide +kernel)⟩
theorem lw_p6 : lw_okq (⟨"SlabYard", "markWet", "(I)I"⟩, 12) := ⟨⟨by decide +kernel, by decide +kernel⟩, List.mem_of_getElem? (i := 11) (by decide +kernel), List.mem_of_getElem? (i := 598) (by decide +kernel), List.mem_of_getElem? (i := 599) (by decide +kernel)⟩
theorem lw_p7 : lw_okq (⟨"SlabYard", "imageOf", "(I)LSlabYard$Ground;"⟩, 12) := ⟨⟨by decide +kernel, by decide +kernel⟩, List.mem_of_getElem? (i := 11) (by decide +kernel), List.mem_of_getElem? (i := 608) (by decide +kernel), List.mem_of_getElem? (i := 609) (by decide +kernel)⟩
def lw_privs_1 : List (MethodName × Nat) := [(⟨"SlabYard", "freeCells", "()I"⟩, 12), (⟨"SlabYard", "markCell", "(I)I"⟩, 12), (⟨"SlabYard", "markTrue", "(I)I"⟩, 12), (⟨"SlabYard", "markLow", "(I)I"⟩, 12), (⟨"SlabYard", "markRocking", "(I)I"⟩, 12), (⟨"SlabYard", "markCut", "(I)I"⟩, 12), (⟨"SlabYard", "markWet", "(I)I"⟩, 12), (⟨"SlabYard", "imageOf", "(I)LSlabYard$Ground;"⟩, 12)]
theorem lw_r1 : ∀ q ∈ lw_privs_1, lw_okq q := List.forall_mem_cons.mpr ⟨lw_p0, List.forall_mem_cons.mpr ⟨lw_p1, List.forall_mem_cons.mpr ⟨lw_p2, List.forall_mem_cons.mpr ⟨lw_p3, List.forall_mem_cons.mpr ⟨lw_p4, List.forall_mem_cons.mpr ⟨lw_p5, List.forall_mem_cons.mpr ⟨lw_p6, List.forall_mem_cons.mpr ⟨lw_p7, fun _ h => absurd h List.not_mem_nil⟩⟩⟩⟩⟩⟩⟩⟩
def lw_privs : List (MethodName × Nat) := lw_privs_1
def lw_tbl : List Cond := k2_sels lw_privs ++ tables_1
theorem lw_privs_ok : ∀ q ∈ lw_privs, lw_okq q := lw_r1

def RX0 : String := "SlabYard$Ground"
def TX0 : u_T := fun k => match k with
  | 0 => ("SlabYard$Ground", "heights", "[I", true)
  | 1 => ("SlabYard$Ground", "slabs", "[I", true)
  | 2 => ("SlabYard$Ground", "stock", "[I", true)
  | 3 => ("SlabYard$Ground", "todays", "I", false)
  | 4 => ("SlabYard$Ground", "days", "I", false)
  | 5 => ("SlabYard$Ground", "doneWhat", "[I", true)
  | 6 => ("SlabYard$Ground", "doneWhere", "[I", true)
  | 7 => ("SlabYard$Ground", "doneBefore", "[I", true)
  | _ => ("SlabYard$Ground", "done", "I", false)
def tyX0 : Nat → FieldType := fun k => match k with
  | 0 => .array .int
  | 1 => .array .int
  | 2 => .array .int
  | 3 => .int
  | 4 => .int
  | 5 => .array .int
  | 6 => .array .int
  | 7 => .array .int
  | _ => .int
theorem nmX0 : ∀ a, a < 9 → ∀ b, b < 9 → a ≠ b → (TX0 a).2.1 ≠ (TX0 b).2.1 := by decide +kernel
theorem tyX0_ok : ∀ k, k < 9 → parseFieldDescriptor (TX0 k).2.2.1 = some (tyX0 k) := by decide +kernel
abbrev cX0_init : ByteArray := prog_2_method_1_code
def yX0_init : MethodName := ⟨RX0, "<init>", "()V"⟩
abbrev cX0_startOn : ByteArray := prog_2_method_2_code
def yX0_startOn : MethodName := ⟨RX0, "startOn", "(LSlabYard$Plot;)V"⟩
abbrev cX0_copyFrom : ByteArray := prog_2_method_3_code
def yX0_copyFrom : MethodName := ⟨RX0, "copyFrom", "(LSlabYard$Ground;)V"⟩
abbrev cX0_lay : ByteArray := prog_2_method_4_code
def yX0_lay : MethodName := ⟨RX0, "lay", "(II)V"⟩
abbrev cX0_lift : ByteArray := prog_2_method_5_code
def yX0_lift : MethodName := ⟨RX0, "lift", "(I)I"⟩
abbrev cX0_raise : ByteArray := prog_2_method_6_code
def yX0_raise : MethodName := ⟨RX0, "raise", "(II)I"⟩
abbrev cX0_passDay : ByteArray := prog_2_method_7_code
def yX0_passDay : MethodName := ⟨RX0, "passDay", "()V"⟩
abbrev cX0_put : ByteArray := prog_2_method_8_code
def yX0_put : MethodName := ⟨RX0, "put", "(IIZ)V"⟩
abbrev cX0_take : ByteArray := prog_2_method_9_code
def yX0_take : MethodName := ⟨RX0, "take", "(I)V"⟩
abbrev cX0_remember : ByteArray := prog_2_method_10_code
def yX0_remember : MethodName := ⟨RX0, "remember", "(III)V"⟩
abbrev cX0_goBack : ByteArray := prog_2_method_11_code
def yX0_goBack : MethodName := ⟨RX0, "goBack", "()Z"⟩
abbrev cX0_slabOn : ByteArray := prog_2_method_12_code
def yX0_slabOn : MethodName := ⟨RX0, "slabOn", "(I)I"⟩
abbrev cX0_sizeOf : ByteArray := prog_2_method_13_code
def yX0_sizeOf : MethodName := ⟨RX0, "sizeOf", "(I)I"⟩
abbrev cX0_heightOf : ByteArray := prog_2_method_14_code
def yX0_heightOf : MethodName := ⟨RX0, "heightOf", "(I)I"⟩
abbrev cX0_setHeight : ByteArray := prog_2_method_15_code
def yX0_setHeight : MethodName := ⟨RX0, "setHeight", "(II)V"⟩
abbrev cX0_cellsOf : ByteArray := prog_2_method_16_code
def yX0_cellsOf : MethodName := ⟨RX0, "cellsOf", "(I)I"⟩
abbrev cX0_isTodays : ByteArray := prog_2_method_17_code
def yX0_isTodays : MethodName := ⟨RX0, "isTodays", "(I)Z"⟩
abbrev cX0_slabCount : ByteArray := prog_2_method_18_code
def yX0_slabCount : MethodName := ⟨RX0, "slabCount", "()I"⟩
abbrev cX0_covered : ByteArray := prog_2_method_19_code
def yX0_covered : MethodName := ⟨RX0, "covered", "()I"⟩
abbrev cX0_todaysCells : ByteArray := prog_2_method_20_code
def yX0_todaysCells : MethodName := ⟨RX0, "todaysCells", "()I"⟩
abbrev cX0_joined : ByteArray := prog_2_method_21_code
def yX0_joined : MethodName := ⟨RX0, "joined", "([I)I"⟩
abbrev cX0_alikePairs : ByteArray := prog_2_method_22_code
def yX0_alikePairs : MethodName := ⟨RX0, "alikePairs", "()I"⟩
def RX1 : String := "SlabYard$Mender"
def TX1 : u_T := fun k => match k with
  | 0 => ("SlabYard$Mender", "best", "I", false)
  | 1 => ("SlabYard$Mender", "height", "I", false)
  | 2 => ("SlabYard$Mender", "puddlesLeft", "I", false)
  | _ => ("SlabYard$Mender", "change", "I", false)
def tyX1 : Nat → FieldType := fun k => match k with
  | 0 => .int
  | 1 => .int
  | 2 => .int
  | _ => .int
theorem nmX1 : ∀ a, a < 4 → ∀ b, b < 4 → a ≠ b → (TX1 a).2.1 ≠ (TX1 b).2.1 := by decide +kernel
theorem tyX1_ok : ∀ k, k < 4 → parseFieldDescriptor (TX1 k).2.2.1 = some (tyX1 k) := by decide +kernel
abbrev cX1_init : ByteArray := prog_3_method_1_code
def yX1_init : MethodName := ⟨RX1, "<init>", "()V"⟩
abbrev cX1_search : ByteArray := prog_3_method_2_code
def yX1_search : MethodName := ⟨RX1, "search", "(LSlabYard$Water;)V"⟩
abbrev cX1_tryHeights : ByteArray := prog_3_method_3_code
def yX1_tryHeights : MethodName := ⟨RX1, "tryHeights", "(LSlabYard$Water;II)V"⟩
abbrev cX1_weigh : ByteArray := prog_3_method_4_code
def yX1_weigh : MethodName := ⟨RX1, "weigh", "(IIII)V"⟩
def RX2 : String := "SlabYard$Planner"
def TX2 : u_T := fun k => match k with
  | 0 => ("SlabYard$Planner", "fewest", "I", false)
  | 1 => ("SlabYard$Planner", "chosen", "[I", true)
  | 2 => ("SlabYard$Planner", "tried", "[I", true)
  | 3 => ("SlabYard$Planner", "left", "[I", true)
  | 4 => ("SlabYard$Planner", "layable", "I", false)
  | _ => ("SlabYard$Planner", "bound", "I", false)
def tyX2 : Nat → FieldType := fun k => match k with
  | 0 => .int
  | 1 => .array .int
  | 2 => .array .int
  | 3 => .array .int
  | 4 => .int
  | _ => .int
theorem nmX2 : ∀ a, a < 6 → ∀ b, b < 6 → a ≠ b → (TX2 a).2.1 ≠ (TX2 b).2.1 := by decide +kernel
theorem tyX2_ok : ∀ k, k < 6 → parseFieldDescriptor (TX2 k).2.2.1 = some (tyX2 k) := by decide +kernel
abbrev cX2_init : ByteArray := prog_4_method_1_code
def yX2_init : MethodName := ⟨RX2, "<init>", "()V"⟩
abbrev cX2_search : ByteArray := prog_4_method_2_code
def yX2_search : MethodName := ⟨RX2, "search", "(LSlabYard$Plot;LSlabYard$Ground;)V"⟩
abbrev cX2_layRest : ByteArray := prog_4_method_3_code
def yX2_layRest : MethodName := ⟨RX2, "layRest", "(LSlabYard$Planner;IIII)V"⟩
abbrev cX2_settle : ByteArray := prog_4_method_4_code
def yX2_settle : MethodName := ⟨RX2, "settle", "(I)V"⟩
abbrev cX2_leastFor : ByteArray := prog_4_method_5_code
def yX2_leastFor : MethodName := ⟨RX2, "leastFor", "(I)I"⟩
def RX3 : String := "SlabYard$Plot"
def TX3 : u_T := fun k => match k with
  | 0 => ("SlabYard$Plot", "wide", "I", false)
  | 1 => ("SlabYard$Plot", "rows", "I", false)
  | 2 => ("SlabYard$Plot", "door", "I", false)
  | 3 => ("SlabYard$Plot", "lids", "I", false)
  | 4 => ("SlabYard$Plot", "drains", "I", false)
  | 5 => ("SlabYard$Plot", "heights", "[I", true)
  | _ => ("SlabYard$Plot", "stock", "[I", true)
def tyX3 : Nat → FieldType := fun k => match k with
  | 0 => .int
  | 1 => .int
  | 2 => .int
  | 3 => .int
  | 4 => .int
  | 5 => .array .int
  | _ => .array .int
theorem nmX3 : ∀ a, a < 7 → ∀ b, b < 7 → a ≠ b → (TX3 a).2.1 ≠ (TX3 b).2.1 := by decide +kernel
theorem tyX3_ok : ∀ k, k < 7 → parseFieldDescriptor (TX3 k).2.2.1 = some (tyX3 k) := by decide +kernel
abbrev cX3_init : ByteArray := prog_5_method_1_code
def yX3_init : MethodName := ⟨RX3, "<init>", "()V"⟩
abbrev cX3_wipe : ByteArray := prog_5_method_2_code
def yX3_wipe : MethodName := ⟨RX3, "wipe", "()V"⟩
abbrev cX3_copyFrom : ByteArray := prog_5_method_3_code
def yX3_copyFrom : MethodName := ⟨RX3, "copyFrom", "(LSlabYard$Plot;)V"⟩
abbrev cX3_has : ByteArray := prog_5_method_4_code
def yX3_has : MethodName := ⟨RX3, "has", "(II)Z"⟩
abbrev cX3_isOpen : ByteArray := prog_5_method_5_code
def yX3_isOpen : MethodName := ⟨RX3, "isOpen", "(II)Z"⟩
abbrev cX3_cells : ByteArray := prog_5_method_6_code
def yX3_cells : MethodName := ⟨RX3, "cells", "()I"⟩
abbrev cX3_layable : ByteArray := prog_5_method_7_code
def yX3_layable : MethodName := ⟨RX3, "layable", "()I"⟩
abbrev cX3_sortOf : ByteArray := prog_5_method_8_code
def yX3_sortOf : MethodName := ⟨RX3, "sortOf", "(I)I"⟩
def RX4 : String := "SlabYard$Reader"
def TX4 : u_T := fun k => match k with
  | 0 => ("SlabYard$Reader", "bytes", "[I", true)
  | 1 => ("SlabYard$Reader", "length", "I", false)
  | 2 => ("SlabYard$Reader", "told", "LSlabYard$Plot;", true)
  | 3 => ("SlabYard$Reader", "place", "I", false)
  | 4 => ("SlabYard$Reader", "begin", "I", false)
  | 5 => ("SlabYard$Reader", "token", "I", false)
  | 6 => ("SlabYard$Reader", "value", "I", false)
  | 7 => ("SlabYard$Reader", "doorTold", "Z", false)
  | 8 => ("SlabYard$Reader", "stockTold", "Z", false)
  | _ => ("SlabYard$Reader", "rowsEnded", "Z", false)
def tyX4 : Nat → FieldType := fun k => match k with
  | 0 => .array .int
  | 1 => .int
  | 2 => .object "SlabYard$Plot"
  | 3 => .int
  | 4 => .int
  | 5 => .int
  | 6 => .int
  | 7 => .boolean
  | 8 => .boolean
  | _ => .boolean
theorem nmX4 : ∀ a, a < 10 → ∀ b, b < 10 → a ≠ b → (TX4 a).2.1 ≠ (TX4 b).2.1 := by decide +kernel
theorem tyX4_ok : ∀ k, k < 10 → parseFieldDescriptor (TX4 k).2.2.1 = some (tyX4 k) := by decide +kernel
abbrev cX4_init : ByteArray := prog_6_method_1_code
def yX4_init : MethodName := ⟨RX4, "<init>", "()V"⟩
abbrev cX4_take : ByteArray := prog_6_method_2_code
def yX4_take : MethodName := ⟨RX4, "take", "(I)Z"⟩
abbrev cX4_readAll : ByteArray := prog_6_method_3_code
def yX4_readAll : MethodName := ⟨RX4, "readAll", "()I"⟩
abbrev cX4_readTold : ByteArray := prog_6_method_4_code
def yX4_readTold : MethodName := ⟨RX4, "readTold", "(II)Z"⟩
abbrev cX4_readWide : ByteArray := prog_6_method_5_code
def yX4_readWide : MethodName := ⟨RX4, "readWide", "()Z"⟩
abbrev cX4_readRow : ByteArray := prog_6_method_6_code
def yX4_readRow : MethodName := ⟨RX4, "readRow", "()Z"⟩
abbrev cX4_readCell : ByteArray := prog_6_method_7_code
def yX4_readCell : MethodName := ⟨RX4, "readCell", "(I)Z"⟩
abbrev cX4_readStock : ByteArray := prog_6_method_8_code
def yX4_readStock : MethodName := ⟨RX4, "readStock", "()Z"⟩
abbrev cX4_readNumber : ByteArray := prog_6_method_9_code
def yX4_readNumber : MethodName := ⟨RX4, "readNumber", "(II)Z"⟩
abbrev cX4_readToken : ByteArray := prog_6_method_10_code
def yX4_readToken : MethodName := ⟨RX4, "readToken", "()V"⟩
abbrev cX4_sortOf : ByteArray := prog_6_method_11_code
def yX4_sortOf : MethodName := ⟨RX4, "sortOf", "(I)I"⟩
def RX5 : String := "SlabYard$Water"
def TX5 : u_T := fun k => match k with
  | _ => ("SlabYard$Water", "tiers", "[I", true)
def tyX5 : Nat → FieldType := fun k => match k with
  | _ => .array .int
theorem nmX5 : ∀ a, a < 1 → ∀ b, b < 1 → a ≠ b → (TX5 a).2.1 ≠ (TX5 b).2.1 := by decide +kernel
theorem tyX5_ok : ∀ k, k < 1 → parseFieldDescriptor (TX5 k).2.2.1 = some (tyX5 k) := by decide +kernel
abbrev cX5_init : ByteArray := prog_7_method_1_code
def yX5_init : MethodName := ⟨RX5, "<init>", "()V"⟩
abbrev cX5_fill : ByteArray := prog_7_method_2_code
def yX5_fill : MethodName := ⟨RX5, "fill", "(LSlabYard$Plot;LSlabYard$Ground;)V"⟩
abbrev cX5_tierOf : ByteArray := prog_7_method_3_code
def yX5_tierOf : MethodName := ⟨RX5, "tierOf", "(I)I"⟩
abbrev cX5_onward : ByteArray := prog_7_method_4_code
def yX5_onward : MethodName := ⟨RX5, "onward", "(I)I"⟩
abbrev cX5_firstAround : ByteArray := prog_7_method_5_code
def yX5_firstAround : MethodName := ⟨RX5, "firstAround", "(II)I"⟩
abbrev cX5_endOf : ByteArray := prog_7_method_6_code
def yX5_endOf : MethodName := ⟨RX5, "endOf", "(I)I"⟩
abbrev cX5_wayOf : ByteArray := prog_7_method_7_code
def yX5_wayOf : MethodName := ⟨RX5, "wayOf", "(I)I"⟩
abbrev cX5_puddles : ByteArray := prog_7_method_8_code
def yX5_puddles : MethodName := ⟨RX5, "puddles", "()I"⟩
def RX6 : String := "SlabYard"
def TX6 : u_T := fun k => match k with
  | 0 => ("SlabYard", "reader", "LSlabYard$Reader;", true)
  | 1 => ("SlabYard", "plot", "LSlabYard$Plot;", true)
  | 2 => ("SlabYard", "ground", "LSlabYard$Ground;", true)
  | 3 => ("SlabYard", "firstImage", "LSlabYard$Ground;", true)
  | 4 => ("SlabYard", "secondImage", "LSlabYard$Ground;", true)
  | 5 => ("SlabYard", "water", "LSlabYard$Water;", true)
  | 6 => ("SlabYard", "mender", "LSlabYard$Mender;", true)
  | 7 => ("SlabYard", "planner", "LSlabYard$Planner;", true)
  | 8 => ("SlabYard", "keptImages", "I", false)
  | 9 => ("SlabYard", "seenCells", "I", false)
  | 10 => ("SlabYard", "seenCount", "I", false)
  | _ => ("SlabYard", "traced", "J", false)
def tyX6 : Nat → FieldType := fun k => match k with
  | 0 => .object "SlabYard$Reader"
  | 1 => .object "SlabYard$Plot"
  | 2 => .object "SlabYard$Ground"
  | 3 => .object "SlabYard$Ground"
  | 4 => .object "SlabYard$Ground"
  | 5 => .object "SlabYard$Water"
  | 6 => .object "SlabYard$Mender"
  | 7 => .object "SlabYard$Planner"
  | 8 => .int
  | 9 => .int
  | 10 => .int
  | _ => .long
theorem nmX6 : ∀ a, a < 12 → ∀ b, b < 12 → a ≠ b → (TX6 a).2.1 ≠ (TX6 b).2.1 := by decide +kernel
theorem tyX6_ok : ∀ k, k < 12 → parseFieldDescriptor (TX6 k).2.2.1 = some (tyX6 k) := by decide +kernel
abbrev cX6_init : ByteArray := prog_1_method_1_code
def yX6_init : MethodName := ⟨RX6, "<init>", "()V"⟩
abbrev cX6_type : ByteArray := prog_1_method_2_code
def yX6_type : MethodName := ⟨RX6, "type", "(I)I"⟩
abbrev cX6_yard : ByteArray := prog_1_method_4_code
def yX6_yard : MethodName := ⟨RX6, "yard", "()I"⟩
abbrev cX6_cell : ByteArray := prog_1_method_5_code
def yX6_cell : MethodName := ⟨RX6, "cell", "(III)I"⟩
abbrev cX6_lays : ByteArray := prog_1_method_6_code
def yX6_lays : MethodName := ⟨RX6, "lays", "(III)I"⟩
abbrev cX6_lifts : ByteArray := prog_1_method_7_code
def yX6_lifts : MethodName := ⟨RX6, "lifts", "(II)I"⟩
abbrev cX6_raises : ByteArray := prog_1_method_8_code
def yX6_raises : MethodName := ⟨RX6, "raises", "(III)I"⟩
abbrev cX6_day : ByteArray := prog_1_method_9_code
def yX6_day : MethodName := ⟨RX6, "day", "()I"⟩
abbrev cX6_undo : ByteArray := prog_1_method_10_code
def yX6_undo : MethodName := ⟨RX6, "undo", "()I"⟩
abbrev cX6_now : ByteArray := prog_1_method_11_code
def yX6_now : MethodName := ⟨RX6, "now", "(I)I"⟩
abbrev cX6_stock : ByteArray := prog_1_method_12_code
def yX6_stock : MethodName := ⟨RX6, "stock", "(I)I"⟩
abbrev cX6_drop : ByteArray := prog_1_method_13_code
def yX6_drop : MethodName := ⟨RX6, "drop", "(III)I"⟩
abbrev cX6_feeds : ByteArray := prog_1_method_14_code
def yX6_feeds : MethodName := ⟨RX6, "feeds", "(II)I"⟩
abbrev cX6_mend : ByteArray := prog_1_method_15_code
def yX6_mend : MethodName := ⟨RX6, "mend", "(I)I"⟩
abbrev cX6_plan : ByteArray := prog_1_method_16_code
def yX6_plan : MethodName := ⟨RX6, "plan", "(I)I"⟩
abbrev cX6_barrow : ByteArray := prog_1_method_17_code
def yX6_barrow : MethodName := ⟨RX6, "barrow", "(II)I"⟩
abbrev cX6_odds : ByteArray := prog_1_method_18_code
def yX6_odds : MethodName := ⟨RX6, "odds", "(IIII)I"⟩
abbrev cX6_saw : ByteArray := prog_1_method_19_code
def yX6_saw : MethodName := ⟨RX6, "saw", "(II)I"⟩
abbrev cX6_forget : ByteArray := prog_1_method_20_code
def yX6_forget : MethodName := ⟨RX6, "forget", "()I"⟩
abbrev cX6_from : ByteArray := prog_1_method_21_code
def yX6_from : MethodName := ⟨RX6, "from", "()I"⟩
abbrev cX6_mark : ByteArray := prog_1_method_22_code
def yX6_mark : MethodName := ⟨RX6, "mark", "(III)I"⟩
abbrev cX6_keep : ByteArray := prog_1_method_23_code
def yX6_keep : MethodName := ⟨RX6, "keep", "(I)I"⟩
abbrev cX6_back : ByteArray := prog_1_method_24_code
def yX6_back : MethodName := ⟨RX6, "back", "(I)I"⟩
abbrev cX6_count : ByteArray := prog_1_method_25_code
def yX6_count : MethodName := ⟨RX6, "count", "(I)I"⟩
abbrev cX6_trace : ByteArray := prog_1_method_26_code
def yX6_trace : MethodName := ⟨RX6, "trace", "()J"⟩
abbrev cX6_markCell : ByteArray := prog_1_method_27_code
def yX6_markCell : MethodName := ⟨RX6, "markCell", "(I)I"⟩
abbrev cX6_markTrue : ByteArray := prog_1_method_28_code
def yX6_markTrue : MethodName := ⟨RX6, "markTrue", "(I)I"⟩
abbrev cX6_markLow : ByteArray := prog_1_method_29_code
def yX6_markLow : MethodName := ⟨RX6, "markLow", "(I)I"⟩
abbrev cX6_markRocking : ByteArray := prog_1_method_30_code
def yX6_markRocking : MethodName := ⟨RX6, "markRocking", "(I)I"⟩
abbrev cX6_markCut : ByteArray := prog_1_method_31_code
def yX6_markCut : MethodName := ⟨RX6, "markCut", "(I)I"⟩
abbrev cX6_markWet : ByteArray := prog_1_method_32_code
def yX6_markWet : MethodName := ⟨RX6, "markWet", "(I)I"⟩
abbrev cX6_imageOf : ByteArray := prog_1_method_33_code
def yX6_imageOf : MethodName := ⟨RX6, "imageOf", "(I)LSlabYard$Ground;"⟩
abbrev cX6_freeCells : ByteArray := prog_1_method_34_code
def yX6_freeCells : MethodName := ⟨RX6, "freeCells", "()I"⟩
abbrev cX6_numberOf : ByteArray := prog_1_method_35_code
def yX6_numberOf : MethodName := ⟨RX6, "numberOf", "(II)I"⟩
abbrev cX6_holds : ByteArray := prog_1_method_36_code
def yX6_holds : MethodName := ⟨RX6, "holds", "(II)Z"⟩
abbrev cX6_beside : ByteArray := prog_1_method_37_code
def yX6_beside : MethodName := ⟨RX6, "beside", "(I)I"⟩
abbrev cX6_isSize : ByteArray := prog_1_method_38_code
def yX6_isSize : MethodName := ⟨RX6, "isSize", "(I)Z"⟩
abbrev cX6_isNumber : ByteArray := prog_1_method_39_code
def yX6_isNumber : MethodName := ⟨RX6, "isNumber", "(I)Z"⟩
abbrev cX6_bitsAt : ByteArray := prog_1_method_40_code
def yX6_bitsAt : MethodName := ⟨RX6, "bitsAt", "([III)I"⟩
abbrev cX6_fits : ByteArray := prog_1_method_41_code
def yX6_fits : MethodName := ⟨RX6, "fits", "(III)Z"⟩
abbrev cX6_crossPoints : ByteArray := prog_1_method_42_code
def yX6_crossPoints : MethodName := ⟨RX6, "crossPoints", "(III)I"⟩
abbrev cX6_longestSeam : ByteArray := prog_1_method_43_code
def yX6_longestSeam : MethodName := ⟨RX6, "longestSeam", "(III)I"⟩
abbrev cX6_power : ByteArray := prog_1_method_44_code
def yX6_power : MethodName := ⟨RX6, "power", "(II)I"⟩
abbrev cX6_choices : ByteArray := prog_1_method_45_code
def yX6_choices : MethodName := ⟨RX6, "choices", "(II)I"⟩
abbrev cX6_commonDivisor : ByteArray := prog_1_method_46_code
def yX6_commonDivisor : MethodName := ⟨RX6, "commonDivisor", "(II)I"⟩
def RX7 : String := "SlabYardModel"
def TX7 : u_T := fun k => match k with
  | _ => ("", "", "", false)
def tyX7 : Nat → FieldType := fun k => match k with
  | _ => .int
theorem nmX7 : ∀ a, a < 0 → ∀ b, b < 0 → a ≠ b → (TX7 a).2.1 ≠ (TX7 b).2.1 := by decide +kernel
theorem tyX7_ok : ∀ k, k < 0 → parseFieldDescriptor (TX7 k).2.2.1 = some (tyX7 k) := by decide +kernel
def RJ6 : String := "java/lang/Integer"
def TJ6 : u_T := fun k => match k with
  | _ => ("", "", "", false)
def tyJ6 : Nat → FieldType := fun k => match k with
  | _ => .int
abbrev cJ6_bitCount_0f7a4 : ByteArray := prog_10_method_49_code
def yJ6_bitCount_0f7a4 : MethodName := ⟨RJ6, "bitCount", "(I)I"⟩
def RJ9 : String := "java/lang/Math"
def TJ9 : u_T := fun k => match k with
  | _ => ("", "", "", false)
def tyJ9 : Nat → FieldType := fun k => match k with
  | _ => .int
abbrev cJ9_abs_0f7a4 : ByteArray := prog_11_method_59_code
def yJ9_abs_0f7a4 : MethodName := ⟨RJ9, "abs", "(I)I"⟩
abbrev cJ9_min_7cf53 : ByteArray := prog_11_method_69_code
def yJ9_min_7cf53 : MethodName := ⟨RJ9, "min", "(II)I"⟩
def RL : String := "SlabYardLaw"
abbrev cL_cell : ByteArray := method_2_code
def yL_cell : MethodName := ⟨RL, "cell", "([II)I"⟩
abbrev vwCl : List vw_C := [(RX0, TX0, 9), (RX1, TX1, 4), (RX2, TX2, 6), (RX3, TX3, 7), (RX4, TX4, 10), (RX5, TX5, 1), (RX6, TX6, 12)]
end
section
def RXn : Nat → String := fun o => match o with
  | 0 => RX0
  | 1 => RX1
  | 2 => RX2
  | 3 => RX3
  | 4 => RX4
  | 5 => RX5
  | 6 => RX6
  | 7 => RX7
  | 8 => RJ6
  | 9 => RJ9
  | _ => RL
def TXn : Nat → u_T := fun o => match o with
  | 0 => TX0
  | 1 => TX1
  | 2 => TX2
  | 3 => TX3
  | 4 => TX4
  | 5 => TX5
  | 6 => TX6
  | _ => TX7
def tyn : Nat → Nat → FieldType := fun o => match o with
  | 0 => tyX0
  | 1 => tyX1
  | 2 => tyX2
  | 3 => tyX3
  | 4 => tyX4
  | 5 => tyX5
  | 6 => tyX6
  | _ => tyX7
def nXn : Nat → Nat := fun o => match o with
  | 0 => 9
  | 1 => 4
  | 2 => 6
  | 3 => 7
  | 4 => 10
  | 5 => 1
  | 6 => 12
  | _ => 0
/-- the world, a place for each cell, in the order of their making: its class (20, 21, 22: rows of int, byte, boolean), a row's length, for each field 0 (int), 1 (long), or 2 more than the place that it holds -/
def layF : Nat → Nat × Nat × List Nat := fun p => (bif Nat.blt p 37 then (bif Nat.blt p 18 then (bif Nat.blt p 9 then (bif Nat.blt p 4 then (bif Nat.blt p 2 then (bif Nat.blt p 1 then (bif Nat.beq p 0 then ((6, 0, [3, 8, 11, 18, 25, 32, 34, 35, 0, 0, 0, 1]) : Nat × Nat × List Nat) else (99, 0, [])) else (bif Nat.beq p 1 then ((4, 0, [4, 0, 5, 0, 0, 0, 0, 0, 0, 0]) : Nat × Nat × List Nat) else (99, 0, []))) else (bif Nat.blt p 3 then (bif Nat.beq p 2 then ((20, 150, []) : Nat × Nat × List Nat) else (99, 0, [])) else (bif Nat.beq p 3 then ((3, 0, [0, 0, 0, 0, 0, 6, 7]) : Nat × Nat × List Nat) else (99, 0, [])))) else (bif Nat.blt p 6 then (bif Nat.blt p 5 then (bif Nat.beq p 4 then ((20, 16, []) : Nat × Nat × List Nat) else (99, 0, [])) else (bif Nat.beq p 5 then ((20, 4, []) : Nat × Nat × List Nat) else (99, 0, []))) else (bif Nat.blt p 7 then (bif Nat.beq p 6 then ((3, 0, [0, 0, 0, 0, 0, 9, 10]) : Nat × Nat × List Nat) else (99, 0, [])) else (bif Nat.blt p 8 then (bif Nat.beq p 7 then ((20, 16, []) : Nat × Nat × List Nat) else (99, 0, [])) else (bif Nat.beq p 8 then ((20, 4, []) : Nat × Nat × List Nat) else (99, 0, [])))))) else (bif Nat.blt p 13 then (bif Nat.blt p 11 then (bif Nat.blt p 10 then (bif Nat.beq p 9 then ((0, 0, [12, 13, 14, 0, 0, 15, 16, 17, 0]) : Nat × Nat × List Nat) else (99, 0, [])) else (bif Nat.beq p 10 then ((20, 16, []) : Nat × Nat × List Nat) else (99, 0, []))) else (bif Nat.blt p 12 then (bif Nat.beq p 11 then ((20, 16, []) : Nat × Nat × List Nat) else (99, 0, [])) else (bif Nat.beq p 12 then ((20, 4, []) : Nat × Nat × List Nat) else (99, 0, [])))) else (bif Nat.blt p 15 then (bif Nat.blt p 14 then (bif Nat.beq p 13 then ((20, 10, []) : Nat × Nat × List Nat) else (99, 0, [])) else (bif Nat.beq p 14 then ((20, 10, []) : Nat × Nat × List Nat) else (99, 0, []))) else (bif Nat.blt p 16 then (bif Nat.beq p 15 then ((20, 10, []) : Nat × Nat × List Nat) else (99, 0, [])) else (bif Nat.blt p 17 then (bif Nat.beq p 16 then ((0, 0, [19, 20, 21, 0, 0, 22, 23, 24, 0]) : Nat × Nat × List Nat) else (99, 0, [])) else (bif Nat.beq p 17 then ((20, 16, []) : Nat × Nat × List Nat) else (99, 0, []))))))) else (bif Nat.blt p 27 then (bif Nat.blt p 22 then (bif Nat.blt p 20 then (bif Nat.blt p 19 then (bif Nat.beq p 18 then ((20, 16, []) : Nat × Nat × List Nat) else (99, 0, [])) else (bif Nat.beq p 19 then ((20, 4, []) : Nat × Nat × List Nat) else (99, 0, []))) else (bif Nat.blt p 21 then (bif Nat.beq p 20 then ((20, 10, []) : Nat × Nat × List Nat) else (99, 0, [])) else (bif Nat.beq p 21 then ((20, 10, []) : Nat × Nat × List Nat) else (99, 0, [])))) else (bif Nat.blt p 24 then (bif Nat.blt p 23 then (bif Nat.beq p 22 then ((20, 10, []) : Nat × Nat × List Nat) else (99, 0, [])) else (bif Nat.beq p 23 then ((0, 0, [26, 27, 28, 0, 0, 29, 30, 31, 0]) : Nat × Nat × List Nat) else (99, 0, []))) else (bif Nat.blt p 25 then (bif Nat.beq p 24 then ((20, 16, []) : Nat × Nat × List Nat) else (99, 0, [])) else (bif Nat.blt p 26 then (bif Nat.beq p 25 then ((20, 16, []) : Nat × Nat × List Nat) else (99, 0, [])) else (bif Nat.beq p 26 then ((20, 4, []) : Nat × Nat × List Nat) else (99, 0, [])))))) else (bif Nat.blt p 32 then (bif Nat.blt p 29 then (bif Nat.blt p 28 then (bif Nat.beq p 27 then ((20, 10, []) : Nat × Nat × List Nat) else (99, 0, [])) else (bif Nat.beq p 28 then ((20, 10, []) : Nat × Nat × List Nat) else (99, 0, []))) else (bif Nat.blt p 30 then (bif Nat.beq p 29 then ((20, 10, []) : Nat × Nat × List Nat) else (99, 0, [])) else (bif Nat.blt p 31 then (bif Nat.beq p 30 then ((5, 0, [33]) : Nat × Nat × List Nat) else (99, 0, [])) else (bif Nat.beq p 31 then ((20, 11, []) : Nat × Nat × List Nat) else (99, 0, []))))) else (bif Nat.blt p 34 then (bif Nat.blt p 33 then (bif Nat.beq p 32 then ((1, 0, [0, 0, 0, 0]) : Nat × Nat × List Nat) else (99, 0, [])) else (bif Nat.beq p 33 then ((2, 0, [0, 36, 37, 38, 0, 0]) : Nat × Nat × List Nat) else (99, 0, []))) else (bif Nat.blt p 35 then (bif Nat.beq p 34 then ((20, 16, []) : Nat × Nat × List Nat) else (99, 0, [])) else (bif Nat.blt p 36 then (bif Nat.beq p 35 then ((20, 16, []) : Nat × Nat × List Nat) else (99, 0, [])) else (bif Nat.beq p 36 then ((20, 4, []) : Nat × Nat × List Nat) else (99, 0, [])))))))) else (bif Nat.blt p 55 then (bif Nat.blt p 46 then (bif Nat.blt p 41 then (bif Nat.blt p 39 then (bif Nat.blt p 38 then (bif Nat.beq p 37 then ((6, 0, [40, 45, 48, 55, 62, 69, 71, 72, 0, 0, 0, 1]) : Nat × Nat × List Nat) else (99, 0, [])) else (bif Nat.beq p 38 then ((4, 0, [41, 0, 42, 0, 0, 0, 0, 0, 0, 0]) : Nat × Nat × List Nat) else (99, 0, []))) else (bif Nat.blt p 40 then (bif Nat.beq p 39 then ((20, 150, []) : Nat × Nat × List Nat) else (99, 0, [])) else (bif Nat.beq p 40 then ((3, 0, [0, 0, 0, 0, 0, 43, 44]) : Nat × Nat × List Nat) else (99, 0, [])))) else (bif Nat.blt p 43 then (bif Nat.blt p 42 then (bif Nat.beq p 41 then ((20, 16, []) : Nat × Nat × List Nat) else (99, 0, [])) else (bif Nat.beq p 42 then ((20, 4, []) : Nat × Nat × List Nat) else (99, 0, []))) else (bif Nat.blt p 44 then (bif Nat.beq p 43 then ((3, 0, [0, 0, 0, 0, 0, 46, 47]) : Nat × Nat × List Nat) else (99, 0, [])) else (bif Nat.blt p 45 then (bif Nat.beq p 44 then ((20, 16, []) : Nat × Nat × List Nat) else (99, 0, [])) else (bif Nat.beq p 45 then ((20, 4, []) : Nat × Nat × List Nat) else (99, 0, [])))))) else (bif Nat.blt p 50 then (bif Nat.blt p 48 then (bif Nat.blt p 47 then (bif Nat.beq p 46 then ((0, 0, [49, 50, 51, 0, 0, 52, 53, 54, 0]) : Nat × Nat × List Nat) else (99, 0, [])) else (bif Nat.beq p 47 then ((20, 16, []) : Nat × Nat × List Nat) else (99, 0, []))) else (bif Nat.blt p 49 then (bif Nat.beq p 48 then ((20, 16, []) : Nat × Nat × List Nat) else (99, 0, [])) else (bif Nat.beq p 49 then ((20, 4, []) : Nat × Nat × List Nat) else (99, 0, [])))) else (bif Nat.blt p 52 then (bif Nat.blt p 51 then (bif Nat.beq p 50 then ((20, 10, []) : Nat × Nat × List Nat) else (99, 0, [])) else (bif Nat.beq p 51 then ((20, 10, []) : Nat × Nat × List Nat) else (99, 0, []))) else (bif Nat.blt p 53 then (bif Nat.beq p 52 then ((20, 10, []) : Nat × Nat × List Nat) else (99, 0, [])) else (bif Nat.blt p 54 then (bif Nat.beq p 53 then ((0, 0, [56, 57, 58, 0, 0, 59, 60, 61, 0]) : Nat × Nat × List Nat) else (99, 0, [])) else (bif Nat.beq p 54 then ((20, 16, []) : Nat × Nat × List Nat) else (99, 0, []))))))) else (bif Nat.blt p 64 then (bif Nat.blt p 59 then (bif Nat.blt p 57 then (bif Nat.blt p 56 then (bif Nat.beq p 55 then ((20, 16, []) : Nat × Nat × List Nat) else (99, 0, [])) else (bif Nat.beq p 56 then ((20, 4, []) : Nat × Nat × List Nat) else (99, 0, []))) else (bif Nat.blt p 58 then (bif Nat.beq p 57 then ((20, 10, []) : Nat × Nat × List Nat) else (99, 0, [])) else (bif Nat.beq p 58 then ((20, 10, []) : Nat × Nat × List Nat) else (99, 0, [])))) else (bif Nat.blt p 61 then (bif Nat.blt p 60 then (bif Nat.beq p 59 then ((20, 10, []) : Nat × Nat × List Nat) else (99, 0, [])) else (bif Nat.beq p 60 then ((0, 0, [63, 64, 65, 0, 0, 66, 67, 68, 0]) : Nat × Nat × List Nat) else (99, 0, []))) else (bif Nat.blt p 62 then (bif Nat.beq p 61 then ((20, 16, []) : Nat × Nat × List Nat) else (99, 0, [])) else (bif Nat.blt p 63 then (bif Nat.beq p 62 then ((20, 16, []) : Nat × Nat × List Nat) else (99, 0, [])) else (bif Nat.beq p 63 then ((20, 4, []) : Nat × Nat × List Nat) else (99, 0, [])))))) else (bif Nat.blt p 69 then (bif Nat.blt p 66 then (bif Nat.blt p 65 then (bif Nat.beq p 64 then ((20, 10, []) : Nat × Nat × List Nat) else (99, 0, [])) else (bif Nat.beq p 65 then ((20, 10, []) : Nat × Nat × List Nat) else (99, 0, []))) else (bif Nat.blt p 67 then (bif Nat.beq p 66 then ((20, 10, []) : Nat × Nat × List Nat) else (99, 0, [])) else (bif Nat.blt p 68 then (bif Nat.beq p 67 then ((5, 0, [70]) : Nat × Nat × List Nat) else (99, 0, [])) else (bif Nat.beq p 68 then ((20, 11, []) : Nat × Nat × List Nat) else (99, 0, []))))) else (bif Nat.blt p 71 then (bif Nat.blt p 70 then (bif Nat.beq p 69 then ((1, 0, [0, 0, 0, 0]) : Nat × Nat × List Nat) else (99, 0, [])) else (bif Nat.beq p 70 then ((2, 0, [0, 73, 74, 75, 0, 0]) : Nat × Nat × List Nat) else (99, 0, []))) else (bif Nat.blt p 72 then (bif Nat.beq p 71 then ((20, 16, []) : Nat × Nat × List Nat) else (99, 0, [])) else (bif Nat.blt p 73 then (bif Nat.beq p 72 then ((20, 16, []) : Nat × Nat × List Nat) else (99, 0, [])) else (bif Nat.beq p 73 then ((20, 4, []) : Nat × Nat × List Nat) else (99, 0, [])))))))))
def nPl : Nat := 74
def stN : Nat → String := fun j => match j with
  | 0 => "SHAPES"
  | 1 => "WIDTHS"
  | 2 => "JOINED_RIGHT"
  | _ => "JOINED_DOWN"
def stV : Nat → Nat → Int32 := fun j => match j with
  | 0 => fun k => ([51, 3, 17, 1] : List Int32).getD k 0
  | 1 => fun k => ([2, 2, 1, 1] : List Int32).getD k 0
  | 2 => fun k => ([17, 1, 0, 0] : List Int32).getD k 0
  | _ => fun k => ([3, 0, 1, 0] : List Int32).getD k 0
def fldR : Nat → Option (Nat × Nat) := fun k => (bif Nat.blt k 6283 then (bif Nat.blt k 4048 then (bif Nat.blt k 2022 then (bif Nat.blt k 38 then (bif Nat.blt k 24 then (bif Nat.blt k 18 then (bif Nat.blt k 15 then (bif Nat.beq k 9 then some (0, 0) else none) else (bif Nat.beq k 15 then some (0, 1) else none)) else (bif Nat.blt k 21 then (bif Nat.beq k 18 then some (0, 2) else none) else (bif Nat.beq k 21 then some (0, 5) else none))) else (bif Nat.blt k 30 then (bif Nat.blt k 27 then (bif Nat.beq k 24 then some (0, 6) else none) else (bif Nat.beq k 27 then some (0, 7) else none)) else (bif Nat.blt k 33 then (bif Nat.beq k 30 then some (3, 5) else none) else (bif Nat.blt k 34 then (bif Nat.beq k 33 then some (3, 6) else none) else (bif Nat.beq k 34 then some (0, 3) else none))))) else (bif Nat.blt k 1033 then (bif Nat.blt k 1009 then (bif Nat.blt k 41 then (bif Nat.beq k 38 then some (0, 4) else none) else (bif Nat.beq k 41 then some (0, 8) else none)) else (bif Nat.blt k 1015 then (bif Nat.beq k 1009 then some (1, 0) else none) else (bif Nat.blt k 1018 then (bif Nat.beq k 1015 then some (1, 1) else none) else (bif Nat.beq k 1018 then some (1, 3) else none)))) else (bif Nat.blt k 2009 then (bif Nat.blt k 1043 then (bif Nat.beq k 1033 then some (1, 2) else none) else (bif Nat.beq k 1043 then some (5, 0) else none)) else (bif Nat.blt k 2015 then (bif Nat.beq k 2009 then some (2, 0) else none) else (bif Nat.blt k 2019 then (bif Nat.beq k 2015 then some (2, 1) else none) else (bif Nat.beq k 2019 then some (2, 2) else none)))))) else (bif Nat.blt k 3031 then (bif Nat.blt k 3009 then (bif Nat.blt k 2048 then (bif Nat.blt k 2046 then (bif Nat.beq k 2022 then some (2, 3) else none) else (bif Nat.beq k 2046 then some (2, 4) else none)) else (bif Nat.blt k 2051 then (bif Nat.beq k 2048 then some (2, 5) else none) else (bif Nat.beq k 2051 then some (0, 2) else none))) else (bif Nat.blt k 3021 then (bif Nat.blt k 3015 then (bif Nat.beq k 3009 then some (3, 5) else none) else (bif Nat.beq k 3015 then some (3, 6) else none)) else (bif Nat.blt k 3025 then (bif Nat.beq k 3021 then some (3, 0) else none) else (bif Nat.blt k 3028 then (bif Nat.beq k 3025 then some (3, 1) else none) else (bif Nat.beq k 3028 then some (3, 2) else none))))) else (bif Nat.blt k 4029 then (bif Nat.blt k 4009 then (bif Nat.blt k 3034 then (bif Nat.beq k 3031 then some (3, 3) else none) else (bif Nat.beq k 3034 then some (3, 4) else none)) else (bif Nat.blt k 4018 then (bif Nat.beq k 4009 then some (4, 0) else none) else (bif Nat.blt k 4022 then (bif Nat.beq k 4018 then some (4, 2) else none) else (bif Nat.beq k 4022 then some (4, 1) else none)))) else (bif Nat.blt k 4036 then (bif Nat.blt k 4032 then (bif Nat.beq k 4029 then some (4, 3) else none) else (bif Nat.beq k 4032 then some (4, 7) else none)) else (bif Nat.blt k 4039 then (bif Nat.beq k 4036 then some (4, 8) else none) else (bif Nat.blt k 4045 then (bif Nat.beq k 4039 then some (4, 9) else none) else (bif Nat.beq k 4045 then some (4, 5) else none))))))) else (bif Nat.blt k 6053 then (bif Nat.blt k 5011 then (bif Nat.blt k 4088 then (bif Nat.blt k 4058 then (bif Nat.blt k 4055 then (bif Nat.beq k 4048 then some (4, 6) else none) else (bif Nat.beq k 4055 then some (4, 4) else none)) else (bif Nat.blt k 4065 then (bif Nat.beq k 4058 then some (3, 0) else none) else (bif Nat.beq k 4065 then some (3, 1) else none))) else (bif Nat.blt k 4098 then (bif Nat.blt k 4091 then (bif Nat.beq k 4088 then some (3, 5) else none) else (bif Nat.beq k 4091 then some (3, 2) else none)) else (bif Nat.blt k 4101 then (bif Nat.beq k 4098 then some (3, 3) else none) else (bif Nat.blt k 4104 then (bif Nat.beq k 4101 then some (3, 4) else none) else (bif Nat.beq k 4104 then some (3, 6) else none))))) else (bif Nat.blt k 6026 then (bif Nat.blt k 5025 then (bif Nat.blt k 5021 then (bif Nat.beq k 5011 then some (5, 0) else none) else (bif Nat.beq k 5021 then some (3, 4) else none)) else (bif Nat.blt k 6010 then (bif Nat.beq k 5025 then some (0, 0) else none) else (bif Nat.blt k 6019 then (bif Nat.beq k 6010 then some (6, 0) else none) else (bif Nat.beq k 6019 then some (6, 1) else none)))) else (bif Nat.blt k 6033 then (bif Nat.blt k 6030 then (bif Nat.beq k 6026 then some (6, 2) else none) else (bif Nat.beq k 6030 then some (6, 3) else none)) else (bif Nat.blt k 6039 then (bif Nat.beq k 6033 then some (6, 4) else none) else (bif Nat.blt k 6046 then (bif Nat.beq k 6039 then some (6, 5) else none) else (bif Nat.beq k 6046 then some (6, 6) else none)))))) else (bif Nat.blt k 6208 then (bif Nat.blt k 6085 then (bif Nat.blt k 6069 then (bif Nat.blt k 6061 then (bif Nat.beq k 6053 then some (6, 7) else none) else (bif Nat.beq k 6061 then some (4, 1) else none)) else (bif Nat.blt k 6079 then (bif Nat.beq k 6069 then some (4, 2) else none) else (bif Nat.blt k 6082 then (bif Nat.beq k 6079 then some (6, 8) else none) else (bif Nat.beq k 6082 then some (6, 9) else none)))) else (bif Nat.blt k 6133 then (bif Nat.blt k 6115 then (bif Nat.beq k 6085 then some (6, 10) else none) else (bif Nat.beq k 6115 then some (0, 2) else none)) else (bif Nat.blt k 6142 then (bif Nat.beq k 6133 then some (3, 4) else none) else (bif Nat.blt k 6152 then (bif Nat.beq k 6142 then some (0, 4) else none) else (bif Nat.beq k 6152 then some (0, 8) else none))))) else (bif Nat.blt k 6232 then (bif Nat.blt k 6218 then (bif Nat.blt k 6215 then (bif Nat.beq k 6208 then some (3, 3) else none) else (bif Nat.beq k 6215 then some (1, 0) else none)) else (bif Nat.blt k 6221 then (bif Nat.beq k 6218 then some (1, 1) else none) else (bif Nat.blt k 6229 then (bif Nat.beq k 6221 then some (1, 2) else none) else (bif Nat.beq k 6229 then some (2, 0) else none)))) else (bif Nat.blt k 6276 then (bif Nat.blt k 6235 then (bif Nat.beq k 6232 then some (2, 1) else none) else (bif Nat.beq k 6235 then some (3, 2) else none)) else (bif Nat.blt k 6279 then (bif Nat.beq k 6276 then some (3, 0) else none) else (bif Nat.blt k 6282 then (bif Nat.beq k 6279 then some (3, 1) else none) else (bif Nat.beq k 6282 then some (6, 11) else none)))))))) else none)
def fldP : Nat → Nat := fun k => (bif Nat.blt k 4048 then (bif Nat.blt k 2022 then (bif Nat.blt k 38 then (bif Nat.blt k 24 then (bif Nat.blt k 18 then (bif Nat.blt k 15 then (bif Nat.beq k 9 then 121 else 0) else (bif Nat.beq k 15 then 123 else 0)) else (bif Nat.blt k 21 then (bif Nat.beq k 18 then 124 else 0) else (bif Nat.beq k 21 then 130 else 0))) else (bif Nat.blt k 30 then (bif Nat.blt k 27 then (bif Nat.beq k 24 then 131 else 0) else (bif Nat.beq k 27 then 132 else 0)) else (bif Nat.blt k 33 then (bif Nat.beq k 30 then 59 else 0) else (bif Nat.blt k 34 then (bif Nat.beq k 33 then 62 else 0) else (bif Nat.beq k 34 then 127 else 0))))) else (bif Nat.blt k 1033 then (bif Nat.blt k 1009 then (bif Nat.blt k 41 then (bif Nat.beq k 38 then 128 else 0) else (bif Nat.beq k 41 then 133 else 0)) else (bif Nat.blt k 1015 then (bif Nat.beq k 1009 then 171 else 0) else (bif Nat.blt k 1018 then (bif Nat.beq k 1015 then 173 else 0) else (bif Nat.beq k 1018 then 177 else 0)))) else (bif Nat.blt k 2009 then (bif Nat.blt k 1043 then (bif Nat.beq k 1033 then 175 else 0) else (bif Nat.beq k 1043 then 161 else 0)) else (bif Nat.blt k 2015 then (bif Nat.beq k 2009 then 193 else 0) else (bif Nat.blt k 2019 then (bif Nat.beq k 2015 then 195 else 0) else (bif Nat.beq k 2019 then 197 else 0)))))) else (bif Nat.blt k 3031 then (bif Nat.blt k 3009 then (bif Nat.blt k 2048 then (bif Nat.blt k 2046 then (bif Nat.beq k 2022 then 198 else 0) else (bif Nat.beq k 2046 then 199 else 0)) else (bif Nat.blt k 2051 then (bif Nat.beq k 2048 then 200 else 0) else (bif Nat.beq k 2051 then 125 else 0))) else (bif Nat.blt k 3021 then (bif Nat.blt k 3015 then (bif Nat.beq k 3009 then 58 else 0) else (bif Nat.beq k 3015 then 61 else 0)) else (bif Nat.blt k 3025 then (bif Nat.beq k 3021 then 42 else 0) else (bif Nat.blt k 3028 then (bif Nat.beq k 3025 then 45 else 0) else (bif Nat.beq k 3028 then 48 else 0))))) else (bif Nat.blt k 4029 then (bif Nat.blt k 4009 then (bif Nat.blt k 3034 then (bif Nat.beq k 3031 then 51 else 0) else (bif Nat.beq k 3034 then 54 else 0)) else (bif Nat.blt k 4018 then (bif Nat.beq k 4009 then 80 else 0) else (bif Nat.blt k 4022 then (bif Nat.beq k 4018 then 83 else 0) else (bif Nat.beq k 4022 then 81 else 0)))) else (bif Nat.blt k 4036 then (bif Nat.blt k 4032 then (bif Nat.beq k 4029 then 85 else 0) else (bif Nat.beq k 4032 then 89 else 0)) else (bif Nat.blt k 4039 then (bif Nat.beq k 4036 then 90 else 0) else (bif Nat.blt k 4045 then (bif Nat.beq k 4039 then 91 else 0) else (bif Nat.beq k 4045 then 87 else 0))))))) else (bif Nat.blt k 6053 then (bif Nat.blt k 5011 then (bif Nat.blt k 4088 then (bif Nat.blt k 4058 then (bif Nat.blt k 4055 then (bif Nat.beq k 4048 then 88 else 0) else (bif Nat.beq k 4055 then 86 else 0)) else (bif Nat.blt k 4065 then (bif Nat.beq k 4058 then 43 else 0) else (bif Nat.beq k 4065 then 46 else 0))) else (bif Nat.blt k 4098 then (bif Nat.blt k 4091 then (bif Nat.beq k 4088 then 60 else 0) else (bif Nat.beq k 4091 then 49 else 0)) else (bif Nat.blt k 4101 then (bif Nat.beq k 4098 then 52 else 0) else (bif Nat.blt k 4104 then (bif Nat.beq k 4101 then 56 else 0) else (bif Nat.beq k 4104 then 63 else 0))))) else (bif Nat.blt k 6026 then (bif Nat.blt k 5025 then (bif Nat.blt k 5021 then (bif Nat.beq k 5011 then 160 else 0) else (bif Nat.beq k 5021 then 55 else 0)) else (bif Nat.blt k 6010 then (bif Nat.beq k 5025 then 122 else 0) else (bif Nat.blt k 6019 then (bif Nat.beq k 6010 then 214 else 0) else (bif Nat.beq k 6019 then 215 else 0)))) else (bif Nat.blt k 6033 then (bif Nat.blt k 6030 then (bif Nat.beq k 6026 then 216 else 0) else (bif Nat.beq k 6030 then 217 else 0)) else (bif Nat.blt k 6039 then (bif Nat.beq k 6033 then 218 else 0) else (bif Nat.blt k 6046 then (bif Nat.beq k 6039 then 219 else 0) else (bif Nat.beq k 6046 then 220 else 0)))))) else (bif Nat.blt k 6208 then (bif Nat.blt k 6085 then (bif Nat.blt k 6069 then (bif Nat.blt k 6061 then (bif Nat.beq k 6053 then 221 else 0) else (bif Nat.beq k 6061 then 82 else 0)) else (bif Nat.blt k 6079 then (bif Nat.beq k 6069 then 84 else 0) else (bif Nat.blt k 6082 then (bif Nat.beq k 6079 then 222 else 0) else (bif Nat.beq k 6082 then 223 else 0)))) else (bif Nat.blt k 6133 then (bif Nat.blt k 6115 then (bif Nat.beq k 6085 then 224 else 0) else (bif Nat.beq k 6115 then 126 else 0)) else (bif Nat.blt k 6142 then (bif Nat.beq k 6133 then 57 else 0) else (bif Nat.blt k 6152 then (bif Nat.beq k 6142 then 129 else 0) else (bif Nat.beq k 6152 then 134 else 0))))) else (bif Nat.blt k 6232 then (bif Nat.blt k 6218 then (bif Nat.blt k 6215 then (bif Nat.beq k 6208 then 53 else 0) else (bif Nat.beq k 6215 then 172 else 0)) else (bif Nat.blt k 6221 then (bif Nat.beq k 6218 then 174 else 0) else (bif Nat.blt k 6229 then (bif Nat.beq k 6221 then 176 else 0) else (bif Nat.beq k 6229 then 194 else 0)))) else (bif Nat.blt k 6276 then (bif Nat.blt k 6235 then (bif Nat.beq k 6232 then 196 else 0) else (bif Nat.beq k 6235 then 50 else 0)) else (bif Nat.blt k 6279 then (bif Nat.beq k 6276 then 44 else 0) else (bif Nat.blt k 6282 then (bif Nat.beq k 6279 then 47 else 0) else (bif Nat.beq k 6282 then 225 else 0))))))))
def sttR : Nat → Option (Nat × Bool) := fun k => (bif Nat.blt k 6305 then (bif Nat.blt k 6168 then (bif Nat.blt k 2038 then (bif Nat.blt k 2031 then (bif Nat.beq k 84 then some (0, true) else none) else (bif Nat.beq k 2031 then some (2, true) else none)) else (bif Nat.blt k 2079 then (bif Nat.beq k 2038 then some (3, true) else none) else (bif Nat.beq k 2079 then some (0, true) else none))) else (bif Nat.blt k 6301 then (bif Nat.blt k 6175 then (bif Nat.beq k 6168 then some (2, false) else none) else (bif Nat.beq k 6175 then some (3, false) else none)) else (bif Nat.blt k 6304 then (bif Nat.beq k 6301 then some (1, false) else none) else (bif Nat.beq k 6304 then some (0, false) else none)))) else none)
def sttP : Nat → Nat := fun k => (bif Nat.blt k 6168 then (bif Nat.blt k 2038 then (bif Nat.blt k 2031 then (bif Nat.beq k 84 then 270 else 0) else (bif Nat.beq k 2031 then 531 else 0)) else (bif Nat.blt k 2079 then (bif Nat.beq k 2038 then 533 else 0) else (bif Nat.beq k 2079 then 552 else 0))) else (bif Nat.blt k 6301 then (bif Nat.blt k 6175 then (bif Nat.beq k 6168 then 476 else 0) else (bif Nat.beq k 6175 then 479 else 0)) else (bif Nat.blt k 6304 then (bif Nat.beq k 6301 then 330 else 0) else (bif Nat.beq k 6304 then 332 else 0))))
def cstR : Nat → Option Int32 := fun k => (bif Nat.blt k 10061 then (bif Nat.blt k 8266 then (bif Nat.blt k 6300 then (bif Nat.blt k 6299 then (bif Nat.beq k 6250 then some (-1000000) else none) else (bif Nat.beq k 6299 then some (61166) else none)) else (bif Nat.blt k 8265 then (bif Nat.beq k 6300 then some (65535) else none) else (bif Nat.beq k 8265 then some (1431655765) else none))) else (bif Nat.blt k 10007 then (bif Nat.blt k 8267 then (bif Nat.beq k 8266 then some (858993459) else none) else (bif Nat.beq k 8267 then some (252645135) else none)) else (bif Nat.blt k 10008 then (bif Nat.beq k 10007 then some (747796405) else none) else (bif Nat.blt k 10060 then (bif Nat.beq k 10008 then some (2147483647) else none) else (bif Nat.beq k 10060 then some (-1000000) else none))))) else none)
def cstP : Nat → Nat := fun k => (bif Nat.blt k 8266 then (bif Nat.blt k 6300 then (bif Nat.blt k 6299 then (bif Nat.beq k 6250 then 580 else 0) else (bif Nat.beq k 6299 then 408 else 0)) else (bif Nat.blt k 8265 then (bif Nat.beq k 6300 then 409 else 0) else (bif Nat.beq k 8265 then 424 else 0))) else (bif Nat.blt k 10007 then (bif Nat.blt k 8267 then (bif Nat.beq k 8266 then 425 else 0) else (bif Nat.beq k 8267 then 426 else 0)) else (bif Nat.blt k 10008 then (bif Nat.beq k 10007 then 439 else 0) else (bif Nat.blt k 10060 then (bif Nat.beq k 10008 then 443 else 0) else (bif Nat.beq k 10060 then 610 else 0)))))
def cslR : Nat → Option Int64 := fun k => (bif Nat.blt k 6295 then (bif Nat.blt k 6290 then (bif Nat.blt k 6288 then (bif Nat.beq k 6286 then some (10) else none) else (bif Nat.beq k 6288 then some (100) else none)) else (bif Nat.blt k 6292 then (bif Nat.beq k 6290 then some (1000) else none) else (bif Nat.blt k 6294 then (bif Nat.beq k 6292 then some (10000) else none) else (bif Nat.beq k 6294 then some (100000) else none)))) else none)
def cslP : Nat → Nat := fun k => (bif Nat.blt k 6290 then (bif Nat.blt k 6288 then (bif Nat.beq k 6286 then 589 else 0) else (bif Nat.beq k 6288 then 594 else 0)) else (bif Nat.blt k 6292 then (bif Nat.beq k 6290 then 599 else 0) else (bif Nat.blt k 6294 then (bif Nat.beq k 6292 then 604 else 0) else (bif Nat.beq k 6294 then 609 else 0))))
def gTbl : List Cond := lw_tbl.filter goodWord
theorem gT_at {i : Nat} {w : Cond} (h : lw_tbl[i]? = some w) (hg : goodWord w = true) : w ∈ gTbl := List.mem_filter.mpr ⟨List.mem_of_getElem? h, hg⟩
def inAt (i : Nat) (w : Cond) : Bool := decide (lw_tbl[i]? = some w)
theorem inAt_lw {i : Nat} {w : Cond} (h : inAt i w = true) : w ∈ lw_tbl := List.mem_of_getElem? (of_decide_eq_true h)
theorem inAt_g {i : Nat} {w : Cond} (h : inAt i w = true) (hg : goodWord w = true) : w ∈ gTbl := gT_at (of_decide_eq_true h) hg
def fldK : List Nat := [9, 15, 18, 21, 24, 27, 30, 33, 34, 38, 41, 1009, 1015, 1018, 1033, 1043, 2009, 2015, 2019, 2022, 2046, 2048, 2051, 3009, 3015, 3021, 3025, 3028, 3031, 3034, 4009, 4018, 4022, 4029, 4032, 4036, 4039, 4045, 4048, 4055, 4058, 4065, 4088, 4091, 4098, 4101, 4104, 5011, 5021, 5025, 6010, 6019, 6026, 6030, 6033, 6039, 6046, 6053, 6061, 6069, 6079, 6082, 6085, 6115, 6133, 6142, 6152, 6208, 6215, 6218, 6221, 6229, 6232, 6235, 6276, 6279, 6282]
def fldC (k : Nat) : Bool := match fldR k with | none => true | some r => inAt (fldP k) (.fieldLink (RXn (k / 1000)) (k % 1000) (TXn r.1 r.2).1 (TXn r.1 r.2).2.1 (TXn r.1 r.2).2.2.1) && decide (r.1 < 7) && decide (r.2 < nXn r.1)
def sttC (k : Nat) : Bool := match sttR k with | none => true | some r => (bif r.2 then inAt (sttP k) (.fieldLinkNest (RXn (k / 1000)) (k % 1000) "SlabYard" (stN r.1) "[I" "SlabYard") else inAt (sttP k) (.fieldLink (RXn (k / 1000)) (k % 1000) "SlabYard" (stN r.1) "[I")) && decide (r.1 < 4)
def cstC (k : Nat) : Bool := match cstR k with | none => true | some v => inAt (cstP k) (.constant (RXn (k / 1000)) (k % 1000) v)
def cslC (k : Nat) : Bool := match cslR k with | none => true | some v => inAt (cslP k) (.constantLong (RXn (k / 1000)) (k % 1000) v)
set_option maxRecDepth 100000 in
theorem fld_all : (List.range 6283).all fldC = true := by decide +kernel
theorem fld_ok (k : Nat) : fldC k = true := by
  by_cases hk : k < 6283
  · exact List.all_eq_true.mp fld_all k (List.mem_range.mpr hk)
  · have hb : Nat.blt k 6283 = false := by
      cases h : Nat.blt k 6283 with
      | false => rfl
      | true => exact absurd (Nat.le_of_ble_eq_true h) hk
    have hn : fldR k = none := by unfold fldR; rw [hb]; rfl
    unfold fldC
    rw [hn]
set_option maxRecDepth 100000 in
theorem stt_all : (List.range 6305).all sttC = true := by decide +kernel
theorem stt_ok (k : Nat) : sttC k = true := by
  by_cases hk : k < 6305
  · exact List.all_eq_true.mp stt_all k (List.mem_range.mpr hk)
  · have hb : Nat.blt k 6305 = false := by
      cases h : Nat.blt k 6305 with
      | false => rfl
      | true => exact absurd (Nat.le_of_ble_eq_true h) hk
    have hn : sttR k = none := by unfold sttR; rw [hb]; rfl
    unfold sttC
    rw [hn]
set_option maxRecDepth 100000 in
theorem cst_all : (List.range 10061).all cstC = true := by decide +kernel
theorem cst_ok (k : Nat) : cstC k = true := by
  by_cases hk : k < 10061
  · exact List.all_eq_true.mp cst_all k (List.mem_range.mpr hk)
  · have hb : Nat.blt k 10061 = false := by
      cases h : Nat.blt k 10061 with
      | false => rfl
      | true => exact absurd (Nat.le_of_ble_eq_true h) hk
    have hn : cstR k = none := by unfold cstR; rw [hb]; rfl
    unfold cstC
    rw [hn]
set_option maxRecDepth 100000 in
theorem csl_all : (List.range 6295).all cslC = true := by decide +kernel
theorem csl_ok (k : Nat) : cslC k = true := by
  by_cases hk : k < 6295
  · exact List.all_eq_true.mp csl_all k (List.mem_range.mpr hk)
  · have hb : Nat.blt k 6295 = false := by
      cases h : Nat.blt k 6295 with
      | false => rfl
      | true => exact absurd (Nat.le_of_ble_eq_true h) hk
    have hn : cslR k = none := by unfold cslR; rw [hb]; rfl
    unfold cslC
    rw [hn]
set_option maxRecDepth 100000 in
theorem uws0 : u_ws RX0 TX0 9 = [135, 137, 139, 141, 143, 145, 147, 149, 151].filterMap (fun i => lw_tbl[i]?) := by decide +kernel
set_option maxRecDepth 100000 in
theorem uwg0 : (u_ws RX0 TX0 9).all goodWord = true := by decide +kernel
set_option maxRecDepth 100000 in
theorem uws1 : u_ws RX1 TX1 4 = [178, 180, 182, 184].filterMap (fun i => lw_tbl[i]?) := by decide +kernel
set_option maxRecDepth 100000 in
theorem uwg1 : (u_ws RX1 TX1 4).all goodWord = true := by decide +kernel
set_option maxRecDepth 100000 in
theorem uws2 : u_ws RX2 TX2 6 = [201, 203, 205, 207, 209, 211].filterMap (fun i => lw_tbl[i]?) := by decide +kernel
set_option maxRecDepth 100000 in
theorem uwg2 : (u_ws RX2 TX2 6).all goodWord = true := by decide +kernel
set_option maxRecDepth 100000 in
theorem uws3 : u_ws RX3 TX3 7 = [64, 66, 68, 70, 72, 74, 76].filterMap (fun i => lw_tbl[i]?) := by decide +kernel
set_option maxRecDepth 100000 in
theorem uwg3 : (u_ws RX3 TX3 7).all goodWord = true := by decide +kernel
set_option maxRecDepth 100000 in
theorem uws4 : u_ws RX4 TX4 10 = [92, 94, 96, 98, 100, 102, 104, 106, 108, 110].filterMap (fun i => lw_tbl[i]?) := by decide +kernel
set_option maxRecDepth 100000 in
theorem uwg4 : (u_ws RX4 TX4 10).all goodWord = true := by decide +kernel
set_option maxRecDepth 100000 in
theorem uws5 : u_ws RX5 TX5 1 = [162].filterMap (fun i => lw_tbl[i]?) := by decide +kernel
set_option maxRecDepth 100000 in
theorem uwg5 : (u_ws RX5 TX5 1).all goodWord = true := by decide +kernel
set_option maxRecDepth 100000 in
theorem uws6 : u_ws RX6 TX6 12 = [226, 228, 230, 232, 234, 236, 238, 240, 242, 244, 246, 248].filterMap (fun i => lw_tbl[i]?) := by decide +kernel
set_option maxRecDepth 100000 in
theorem uwg6 : (u_ws RX6 TX6 12).all goodWord = true := by decide +kernel
theorem uws_in {ws : List Cond} {is : List Nat} (h : ws = is.filterMap (fun i => lw_tbl[i]?)) (hg : ws.all goodWord = true) : ∀ w ∈ ws, w ∈ gTbl := by
  intro w hw
  have h1 := List.all_eq_true.mp hg w hw
  rw [h] at hw
  obtain ⟨i, -, hi⟩ := List.mem_filterMap.mp hw
  exact gT_at hi h1
theorem uwsIn : ∀ ci, ci < 7 → ∀ w ∈ u_ws (RXn ci) (TXn ci) (nXn ci), w ∈ gTbl
  | 0, _ => uws_in uws0 uwg0
  | 1, _ => uws_in uws1 uwg1
  | 2, _ => uws_in uws2 uwg2
  | 3, _ => uws_in uws3 uwg3
  | 4, _ => uws_in uws4 uwg4
  | 5, _ => uws_in uws5 uwg5
  | 6, _ => uws_in uws6 uwg6
  | _ + 7, h => absurd h (by omega)
theorem vwCl_at : ∀ ci, ci < 7 → vwCl[ci]? = some (RXn ci, TXn ci, nXn ci)
  | 0, _ => rfl
  | 1, _ => rfl
  | 2, _ => rfl
  | 3, _ => rfl
  | 4, _ => rfl
  | 5, _ => rfl
  | 6, _ => rfl
  | _ + 7, h => absurd h (by omega)
theorem tyn_ok : ∀ ci, ci < 7 → ∀ k, k < nXn ci → parseFieldDescriptor (TXn ci k).2.2.1 = some (tyn ci k)
  | 0, _ => tyX0_ok
  | 1, _ => tyX1_ok
  | 2, _ => tyX2_ok
  | 3, _ => tyX3_ok
  | 4, _ => tyX4_ok
  | 5, _ => tyX5_ok
  | 6, _ => tyX6_ok
  | _ + 7, h => absurd h (by omega)
theorem nmn : ∀ ci, ci < 7 → ∀ a, a < nXn ci → ∀ b, b < nXn ci → a ≠ b → (TXn ci a).2.1 ≠ (TXn ci b).2.1
  | 0, _ => nmX0
  | 1, _ => nmX1
  | 2, _ => nmX2
  | 3, _ => nmX3
  | 4, _ => nmX4
  | 5, _ => nmX5
  | 6, _ => nmX6
  | _ + 7, h => absurd h (by omega)
/-! ===== the numbers of the world: ints by place and slot, one long a place ===== -/
abbrev Mem : Type := (Nat → Nat → Int32) × (Nat → Int64)
def wr (M : Mem) (p k : Nat) (v : Int32) : Mem := (fun q => if q = p then (fun j => if j = k then v else M.1 p j) else M.1 q, M.2)
def wrL (M : Mem) (p : Nat) (v : Int64) : Mem := (M.1, fun q => if q = p then v else M.2 q)
def fvA (M : Mem) (p k c : Nat) : Value := match c with
  | 0 => .int (M.1 p k)
  | 1 => .long (M.2 p)
  | q + 2 => .ref q
def rl (ad : Nat → Nat) (v : Value) : Value := match v with
  | .ref q => .ref (ad q)
  | v => v
/-- tables, addresses, classes of rows, which cells are the world's -/
abbrev Gx : Type := va_G × (Nat → Nat) × (Nat → ClassId) × (Nat → Prop)
def cellE (G : Gx) (M : Mem) (p : Nat) (e : Nat × Nat × List Nat) : va_E :=
  if e.1 < 7 then .inr (e.1, e.2.2.mapIdx (fun k c => rl G.2.1 (fvA M p k c))) else .inl (G.2.2.1 e.1, e.2.1, .inl (M.1 p))
def wl (G : Gx) (M : Mem) : va_W := (List.range nPl).map (fun p => (G.2.1 p, cellE G M p (layF p)))
theorem wl_at (G : Gx) (M : Mem) {p : Nat} (h : p < nPl) : (wl G M)[p]? = some (G.2.1 p, cellE G M p (layF p)) := by
  simp [wl, List.getElem?_map, List.getElem?_range h]
theorem wl_no (G : Gx) (M : Mem) {p : Nat} (h : ¬ p < nPl) : (wl G M)[p]? = none := by
  simp only [wl, List.getElem?_map]
  rw [List.getElem?_eq_none (by simpa using Nat.not_lt.mp h)]
  rfl
theorem wl_len (G : Gx) (M : Mem) : (wl G M).length = nPl := by simp [wl]
theorem cellE_congr {G : Gx} {M M' : Mem} {p : Nat} (h1 : M.1 p = M'.1 p) (h2 : M.2 p = M'.2 p) (e : Nat × Nat × List Nat) : cellE G M p e = cellE G M' p e := by
  have hf : fvA M p = fvA M' p := by
    funext k c
    match c with
    | 0 => simp [fvA, h1]
    | 1 => simp [fvA, h2]
    | q + 2 => rfl
  unfold cellE
  rw [hf, h1]
theorem wr_ne (M : Mem) {p q k : Nat} {v : Int32} (h : q ≠ p) : (wr M p k v).1 q = M.1 q := by simp [wr, h]
theorem wr_upd (M : Mem) (p k : Nat) (v : Int32) : (wr M p k v).1 p = upd (M.1 p) k v := by
  funext j
  simp [wr, upd]
theorem wl_set {G : Gx} {M M' : Mem} {p : Nat} {e : va_E} (hp : p < nPl) (h1 : ∀ q, q ≠ p → M'.1 q = M.1 q) (h2 : ∀ q, q ≠ p → M'.2 q = M.2 q) (he : cellE G M' p (layF p) = e) : (wl G M).set p (G.2.1 p, e) = wl G M' := by
  apply List.ext_getElem?
  intro i
  by_cases hi : i = p
  · subst hi
    rw [List.getElem?_set_self (by rw [wl_len]; exact hp), wl_at G M' hp, he]
  · rw [List.getElem?_set_ne (Ne.symm hi)]
    by_cases hl : i < nPl
    · rw [wl_at G M hl, wl_at G M' hl, cellE_congr (h1 i hi) (h2 i hi)]
    · rw [wl_no G M hl, wl_no G M' hl]
theorem wl_wr (G : Gx) (M : Mem) {p k ci n : Nat} {cs : List Nat} {v : Int32} (hp : p < nPl) (hl : layF p = (ci, n, cs)) (hc : ci < 7) (hk : cs[k]? = some 0) :
    (wl G M).set p (G.2.1 p, .inr (ci, (cs.mapIdx (fun k c => rl G.2.1 (fvA M p k c))).set k (.int v))) = wl G (wr M p k v) := by
  refine wl_set hp (fun q h => wr_ne M h) (fun q h => rfl) ?_
  rw [hl]
  unfold cellE
  rw [if_pos hc]
  congr 2
  apply List.ext_getElem?
  intro j
  rw [List.getElem?_set, List.getElem?_mapIdx, List.getElem?_mapIdx]
  by_cases hj : k = j
  · subst hj
    have hlt : k < cs.length := (List.getElem?_eq_some_iff.mp hk).1
    have hk0 : cs[k] = 0 := (List.getElem?_eq_some_iff.mp hk).2
    simp [hk0, hlt, fvA, rl, wr]
  · rw [if_neg hj]
    cases hcj : cs[j]? with
    | none => rfl
    | some c =>
      match c with
      | 0 => simp [fvA, rl, wr, Ne.symm hj]
      | 1 => rfl
      | q + 2 => rfl
theorem wl_wra (G : Gx) (M : Mem) {p k kd n : Nat} {cs : List Nat} {v : Int32} (hp : p < nPl) (hl : layF p = (kd, n, cs)) (hc : ¬ kd < 7) :
    (wl G M).set p (G.2.1 p, .inl (G.2.2.1 kd, n, .inl (upd (M.1 p) k v))) = wl G (wr M p k v) := by
  refine wl_set hp (fun q h => wr_ne M h) (fun q h => rfl) ?_
  rw [hl]
  unfold cellE
  rw [if_neg hc, wr_upd]
theorem wl_wrL (G : Gx) (M : Mem) {p k ci n : Nat} {cs : List Nat} {v : Int64} (hp : p < nPl) (hl : layF p = (ci, n, cs)) (hc : ci < 7) (hk : cs[k]? = some 1) (hu : ∀ j, cs[j]? = some 1 → j = k) :
    (wl G M).set p (G.2.1 p, .inr (ci, (cs.mapIdx (fun k c => rl G.2.1 (fvA M p k c))).set k (.long v))) = wl G (wrL M p v) := by
  refine wl_set hp (fun q h => rfl) (fun q h => by simp [wrL, h]) ?_
  rw [hl]
  unfold cellE
  rw [if_pos hc]
  congr 2
  apply List.ext_getElem?
  intro j
  rw [List.getElem?_set, List.getElem?_mapIdx, List.getElem?_mapIdx]
  by_cases hj : k = j
  · subst hj
    have hlt : k < cs.length := (List.getElem?_eq_some_iff.mp hk).1
    have hk0 : cs[k] = 1 := (List.getElem?_eq_some_iff.mp hk).2
    simp [hk0, hlt, fvA, rl, wrL]
  · rw [if_neg hj]
    cases hcj : cs[j]? with
    | none => rfl
    | some c =>
      match c with
      | 0 => rfl
      | 1 => exact absurd (hu j hcj).symm hj
      | q + 2 => rfl
/-! ===== the locals ===== -/
def gl (L : List (Option Value)) (i : Nat) : Option Value := L.getD i none
def al (ad : Nat → Nat) (L : List (Option Value)) : List (Nat × Value) := (List.range L.length).filterMap (fun i => (gl L i).map (fun v => (i, rl ad v)))
theorem al_mem {ad : Nat → Nat} {L : List (Option Value)} {q : Nat × Value} : q ∈ al ad L ↔ ∃ v, gl L q.1 = some v ∧ q.2 = rl ad v := by
  unfold al
  rw [List.mem_filterMap]
  constructor
  · rintro ⟨i, -, hi⟩
    cases hg : gl L i with
    | none => rw [hg] at hi; cases hi
    | some v => rw [hg] at hi; cases hi; exact ⟨v, hg, rfl⟩
  · rintro ⟨v, hv, hq⟩
    refine ⟨q.1, ?_, ?_⟩
    · rw [List.mem_range]
      apply Nat.not_le.mp
      intro hle
      unfold gl at hv
      rw [List.getD_eq_getElem?_getD, List.getElem?_eq_none hle] at hv
      cases hv
    · rw [hv]
      show some (q.1, rl ad v) = some q
      rw [← hq]
theorem rl_cat (ad : Nat → Nat) (v : Value) : (rl ad v).category = v.category := by cases v <;> rfl
def LR (ad : Nat → Nat) (nL : Nat) (L : List (Option Value)) (ls : Array Slot) : Prop := L.length = nL ∧ lv_has ls nL (al ad L) ∧ ∀ i v, gl L i = some v → v.category = 1
theorem LR.at {ad : Nat → Nat} {nL : Nat} {L : List (Option Value)} {ls : Array Slot} (h : LR ad nL L ls) {i : Nat} {v : Value} (hv : gl L i = some v) : ls[i]? = some (.val (rl ad v)) := h.2.1.2.2 (i, rl ad v) (al_mem.mpr ⟨v, hv, rfl⟩)
theorem LR.lt {ad : Nat → Nat} {nL : Nat} {L : List (Option Value)} {ls : Array Slot} (h : LR ad nL L ls) {i : Nat} {v : Value} (hv : gl L i = some v) : i < nL := by
  have := (Array.getElem?_eq_some_iff.mp (h.at hv)).1
  rw [h.2.1.1] at this
  exact this
theorem gl_set (L : List (Option Value)) {i : Nat} (hi : i < L.length) (x : Option Value) (j : Nat) : gl (L.set i x) j = if j = i then x else gl L j := by
  unfold gl
  rw [List.getD_eq_getElem?_getD, List.getD_eq_getElem?_getD, List.getElem?_set]
  by_cases h : j = i
  · subst h
    simp [hi]
  · simp [h, Ne.symm h]
theorem LR.store {ad : Nat → Nat} {nL : Nat} {L : List (Option Value)} {ls ls' : Array Slot} {i : Nat} {v : Value} (h : LR ad nL L ls) (hi : i < L.length) (hc : v.category = 1)
    (hs : lv_has ls' nL ((i, rl ad v) :: (al ad L).filter (fun q => !(q.1 == i) && !(q.1 + 1 == i && q.2.category == 2)))) : LR ad nL (L.set i (some v)) ls' := by
  refine ⟨by rw [List.length_set]; exact h.1, ⟨hs.1, hs.2.1, fun q hq => ?_⟩, fun j w hw => ?_⟩
  · obtain ⟨w, hw, he⟩ := al_mem.mp hq
    rw [gl_set L hi] at hw
    by_cases hj : q.1 = i
    · rw [if_pos hj] at hw
      cases hw
      have := hs.2.2 (i, rl ad v) List.mem_cons_self
      rw [he, hj]
      exact this
    · rw [if_neg hj] at hw
      refine hs.2.2 q (List.mem_cons_of_mem _ (List.mem_filter.mpr ⟨al_mem.mpr ⟨w, hw, he⟩, ?_⟩))
      have h1 : q.2.category = 1 := by rw [he, rl_cat]; exact h.2.2 _ _ hw
      simp [hj, h1]
  · rw [gl_set L hi] at hw
    by_cases hj : j = i
    · rw [if_pos hj] at hw
      cases hw
      exact hc
    · rw [if_neg hj] at hw
      exact h.2.2 _ _ hw
/-! ===== the abstract machine: straight instructions; what must hold on the way is gathered in the last part ===== -/
abbrev St : Type := Nat × List (Option Value) × List Value × Mem × Prop
def rdA (M : Mem) (p : Nat) : Option (Nat × Nat × (Nat → Int32)) :=
  bif Nat.blt p nPl then (bif Nat.blt (layF p).1 7 then none else some ((layF p).1, (layF p).2.1, M.1 p))
  else bif Nat.blt p 100 then none else bif Nat.blt p 104 then some (20, 4, stV (p - 100)) else bif Nat.beq p 104 then some (20, (M.1 105 0).toNatClampNeg, M.1 104) else none
def ky (o idx : Nat) : Nat := bif Nat.blt idx 1000 then o * 1000 + idx else 1000000
def psh (n : Nat) (v : Value) (S : St) : Option St := match S with
  | (pc, L, st, M, P) => some (pc + n, L, v :: st, M, P)
def ldi (n i : Nat) (S : St) : Option St := match S with
  | (pc, L, st, M, P) => match gl L i with
    | some (.int v) => some (pc + n, L, .int v :: st, M, P)
    | _ => none
def lda (n i : Nat) (S : St) : Option St := match S with
  | (pc, L, st, M, P) => match gl L i with
    | some (.ref v) => some (pc + n, L, .ref v :: st, M, P)
    | _ => none
def sti (n i : Nat) (S : St) : Option St := match S with
  | (pc, L, .int v :: st, M, P) => bif Nat.blt i L.length then some (pc + n, L.set i (some (.int v)), st, M, P) else none
  | _ => none
def sta (n i : Nat) (S : St) : Option St := match S with
  | (pc, L, .ref v :: st, M, P) => bif Nat.blt i L.length then some (pc + n, L.set i (some (.ref v)), st, M, P) else none
  | _ => none
def inc (i : Nat) (k : Int) (S : St) : Option St := match S with
  | (pc, L, st, M, P) => match gl L i with
    | some (.int v) => some (pc + 3, L.set i (some (.int (v + Int32.ofInt k))), st, M, P)
    | _ => none
def ar2 (g : Int32 → Int32 → Int32) (S : St) : Option St := match S with
  | (pc, L, .int y :: .int x :: st, M, P) => some (pc + 1, L, .int (g x y) :: st, M, P)
  | _ => none
def ar2d (g : Int32 → Int32 → Int32) (S : St) : Option St := match S with
  | (pc, L, .int y :: .int x :: st, M, P) => some (pc + 1, L, .int (g x y) :: st, M, P ∧ ¬ y = 0)
  | _ => none
def ar1 (g : Int32 → Int32) (S : St) : Option St := match S with
  | (pc, L, .int x :: st, M, P) => some (pc + 1, L, .int (g x) :: st, M, P)
  | _ => none
def xlad (S : St) : Option St := match S with
  | (pc, L, .long y :: .long x :: st, M, P) => some (pc + 1, L, .long (x + y) :: st, M, P)
  | _ => none
def xlcm (S : St) : Option St := match S with
  | (pc, L, .long y :: .long x :: st, M, P) => some (pc + 1, L, .int (lg_cmp x y) :: st, M, P)
  | _ => none
def xdup (S : St) : Option St := match S with
  | (pc, L, .int x :: st, M, P) => some (pc + 1, L, .int x :: .int x :: st, M, P)
  | (pc, L, .ref x :: st, M, P) => some (pc + 1, L, .ref x :: .ref x :: st, M, P)
  | _ => none
def xdup2 (S : St) : Option St := match S with
  | (pc, L, .int x :: .ref y :: st, M, P) => some (pc + 1, L, .int x :: .ref y :: .int x :: .ref y :: st, M, P)
  | _ => none
def xpop (S : St) : Option St := match S with
  | (pc, L, .int x :: st, M, P) => some (pc + 1, L, st, M, P)
  | _ => none
def xgoto (off : Int) (S : St) : Option St := match S with
  | (pc, L, st, M, P) => match (pc : Int) + off with
    | .ofNat t => some (t, L, st, M, P)
    | _ => none
def xget (o idx : Nat) (S : St) : Option St := match S with
  | (pc, L, .ref p :: st, M, P) => match fldR (ky o idx) with
    | some (ci, k) => bif Nat.blt p nPl && Nat.beq (layF p).1 ci then (match (layF p).2.2[k]? with
        | some c => some (pc + 3, L, fvA M p k c :: st, M, P)
        | none => none) else none
    | none => none
  | _ => none
def lgOK (p k : Nat) : Bool := (Nat.beq p 0 && Nat.beq k 11) || (Nat.beq p 37 && Nat.beq k 11)
def xput (o idx : Nat) (S : St) : Option St := match S with
  | (pc, L, .int v :: .ref p :: st, M, P) => match fldR (ky o idx) with
    | some (ci, k) => bif Nat.blt p nPl && Nat.beq (layF p).1 ci && !(TXn ci k).2.2.2 then (match (layF p).2.2[k]?, tyn ci k with
        | some 0, .int => some (pc + 3, L, st, wr M p k v, P)
        | some 0, .boolean => some (pc + 3, L, st, wr M p k v, P ∧ (v = 0 ∨ v = 1))
        | _, _ => none) else none
    | none => none
  | (pc, L, .long v :: .ref p :: st, M, P) => match fldR (ky o idx) with
    | some (ci, k) => bif Nat.blt p nPl && Nat.beq (layF p).1 ci && !(TXn ci k).2.2.2 && lgOK p k then some (pc + 3, L, st, wrL M p v, P) else none
    | none => none
  | _ => none
def xsta (o idx : Nat) (S : St) : Option St := match S with
  | (pc, L, st, M, P) => match sttR (ky o idx) with
    | some (j, _) => some (pc + 3, L, .ref (100 + j) :: st, M, P)
    | none => none
def xald (kd : Nat) (S : St) : Option St := match S with
  | (pc, L, .int i :: .ref p :: st, M, P) => match rdA M p with
    | some (kd', n, g) => bif Nat.beq kd' kd then some (pc + 1, L, .int (g i.toNatClampNeg) :: st, M, P ∧ vp_in i n) else none
    | none => none
  | _ => none
def xbld (_ : St) : Option St := none
def xast (kd : Nat) (nar : Int32 → Int32) (S : St) : Option St := match S with
  | (pc, L, .int v :: .int i :: .ref p :: st, M, P) => bif Nat.blt p nPl && Nat.beq (layF p).1 kd then some (pc + 1, L, st, wr M p i.toNatClampNeg (nar v), P ∧ vp_in i (layF p).2.1) else none
  | _ => none
def xbst (_ : St) : Option St := none
def xlen (S : St) : Option St := match S with
  | (pc, L, .ref p :: st, M, P) => bif Nat.beq p 104 then some (pc + 1, L, .int (M.1 105 0) :: st, M, P) else bif Nat.ble 100 p && Nat.blt p 104 then some (pc + 1, L, .int 4 :: st, M, P) else none
  | _ => none
def shl (x y : Int32) : Int32 := x <<< (y &&& 31)
def shr (x y : Int32) : Int32 := x >>> (y &&& 31)
def usr (x y : Int32) : Int32 := (x.toUInt32 >>> (y.toUInt32 &&& Int32.toUInt32 31)).toInt32
def rem (x y : Int32) : Int32 := x - x / y * y
def cic (o : Nat) (n : Nat) (k : Nat) (S : St) : Option St := match cstR (ky o k) with
  | some v => psh n (.int v) S
  | none => none
def cil (o : Nat) (k : Nat) (S : St) : Option St := match cslR (ky o k) with
  | some v => psh 3 (.long v) S
  | none => none
def stp (o : Nat) (x : Instr × Nat) (S : St) : Option St := match x with
  | (.iconst i, 1) => psh 1 (.int (Int32.ofInt i)) S
  | (.bipush i, 2) => psh 2 (.int (Int8.ofInt i).toInt32) S
  | (.sipush i, 3) => psh 3 (.int (Int16.ofInt i).toInt32) S
  | (.lconst i, 1) => psh 1 (.long (Int64.ofNat i)) S
  | (.ldc k, 2) => cic o 2 k S
  | (.ldc_w k, 3) => cic o 3 k S
  | (.ldc2_w k, 3) => cil o k S
  | (.iload_n i, 1) => ldi 1 i S
  | (.iload i, 2) => ldi 2 i S
  | (.aload_n i, 1) => lda 1 i S
  | (.aload i, 2) => lda 2 i S
  | (.istore_n i, 1) => sti 1 i S
  | (.istore i, 2) => sti 2 i S
  | (.astore_n i, 1) => sta 1 i S
  | (.astore i, 2) => sta 2 i S
  | (.iinc i k, 3) => inc i k S
  | (.iadd, 1) => ar2 (fun x y => x + y) S
  | (.isub, 1) => ar2 (fun x y => x - y) S
  | (.imul, 1) => ar2 (fun x y => x * y) S
  | (.iand, 1) => ar2 (fun x y => x &&& y) S
  | (.ior, 1) => ar2 (fun x y => x ||| y) S
  | (.ixor, 1) => ar2 (fun x y => x ^^^ y) S
  | (.ishl, 1) => ar2 shl S
  | (.ishr, 1) => ar2 shr S
  | (.iushr, 1) => ar2 usr S
  | (.idiv, 1) => ar2d (fun x y => x / y) S
  | (.irem, 1) => ar2d rem S
  | (.ineg, 1) => ar1 (fun x => -x) S
  | (.i2b, 1) => ar1 (fun x => x.toInt8.toInt32) S
  | (.ladd, 1) => xlad S
  | (.lcmp, 1) => xlcm S
  | (.dup, 1) => xdup S
  | (.dup2, 1) => xdup2 S
  | (.pop, 1) => xpop S
  | (.goto off, 3) => xgoto off S
  | (.getfield k, 3) => xget o k S
  | (.putfield k, 3) => xput o k S
  | (.getstatic k, 3) => xsta o k S
  | (.iaload, 1) => xald 20 S
  | (.baload, 1) => xbld S
  | (.iastore, 1) => xast 20 (fun v => v) S
  | (.bastore, 1) => xbst S
  | (.arraylength, 1) => xlen S
  | _ => none
/-- so many instructions -/
def run (o : Nat) (f : Nat → Option (Instr × Nat)) : Nat → St → Option St
  | 0, S => some S
  | n + 1, S => match f S.1 with
    | some x => match stp o x S with
      | some S' => run o f n S'
      | none => none
    | none => none
end
section
/-! ===== the machine's state stands for the abstract one ===== -/
def nwTbl : List Cond := lw_tbl.filter (fun w => match w with | .fieldLinkNest .. => true | .methodLinkNest .. => true | _ => false)
/-- what is known of the tables and the statics at a state -/
def WF (G : Gx) (U : State) : Prop := va_K G.1 vwCl [(G.2.2.1 20, .int)] U ∧ (∀ w ∈ nwTbl, va_Nw w U) ∧
  ∀ j, j < 4 → va_Z "SlabYard" (stN j) "[I" (.ref (G.2.1 (100 + j))) G.2.2.2 U U.heap ∧ va_T .int (G.2.1 (100 + j)) 4 (fun k => .int (stV j k)) G.2.2.2 U U.heap
/-- the script: a row that nobody writes -/
def WS (G : Gx) (M : Mem) (U : State) : Prop := ∃ N : Nat, va_T .int (G.2.1 104) N (fun k => .int (M.1 104 k)) G.2.2.2 U U.heap ∧ Int32.ofNat N = M.1 105 0 ∧ N < 2 ^ 31
def Rp (G : Gx) (s : State) (M : Mem) (H : Heap) (locs : List Loc) : Prop := va_P G.1 vwCl (wl G M) H ∧ va_D G.2.2.2 (wl G M) ∧ va_S G.2.2.2 s.heap H locs ∧ WS G M s
/-- a method: its class's number, bytes, locals, answer, name, instructions -/
abbrev Mi : Type := Nat × ByteArray × Nat × Option FieldType × MethodName × (Nat → Option (Instr × Nat))
def FOK (f : Nat → Option (Instr × Nat)) (cc : ByteArray) : Prop := ∀ pc x, f pc = some x → decode cc pc = .ok x
section SND
variable {p : Program} {l : Launch} {e : Env} {R : Room} {s : State} {m : MethodId} {args : Array Value} {below : List Frame} {meth : Method} {c : Code} {cells slots : Nat} {Qr : State → Prop} {G : Gx}
def CX (G : Gx) (mi : Mi) (d : Nat) (p : Program) (R : Room) (s : State) (m : MethodId) (args : Array Value) (c : Code) (cells slots : Nat) : Prop :=
  p.tables.exec = Jvm.exec ∧ c.code = mi.2.1 ∧ c.maxLocals = mi.2.2.1 ∧ s.vm.findClass (RXn mi.1) = some m.cls ∧ (∀ w ∈ gTbl, w.before args s = true) ∧ d ≤ R.frames ∧ 64 * d ≤ R.locals ∧ cells ≤ R.cells ∧ slots ≤ R.slots ∧ WF G s ∧ FOK mi.2.2.2.2.2 mi.2.1
/-- the machine goes on well from the abstract state -/
def Wt (p : Program) (l : Launch) (e : Env) (R : Room) (s : State) (m : MethodId) (args : Array Value) (below : List Frame) (meth : Method) (c : Code) (cells slots : Nat) (Qr : State → Prop) (G : Gx) (nL : Nat) (pc : Nat) (L : List (Option Value)) (st : List Value) (M : Mem) : Prop :=
  ∀ (H : Heap) (locs : List Loc) (ls : Array Slot), Rp G s M H locs → LR G.2.1 nL L ls → W p l e R s m args below meth c H locs cells slots Qr (F0 m pc ls (st.map (rl G.2.1)))
/-- one step is right: what it asks holds, then the machine goes on well from here when it does from there -/
def SOK (p : Program) (l : Launch) (e : Env) (R : Room) (s : State) (m : MethodId) (args : Array Value) (below : List Frame) (meth : Method) (c : Code) (cells slots : Nat) (Qr : State → Prop) (G : Gx) (nL : Nat) (S S' : St) : Prop :=
  (S'.2.2.2.2 → S.2.2.2.2) ∧ (S'.2.2.2.2 → Wt p l e R s m args below meth c cells slots Qr G nL S'.1 S'.2.1 S'.2.2.1 S'.2.2.2.1 → Wt p l e R s m args below meth c cells slots Qr G nL S.1 S.2.1 S.2.2.1 S.2.2.2.1)
variable {nL o : Nat} {S S' : St}
variable {pc : Nat} {L : List (Option Value)} {st : List Value} {M : Mem} {P : Prop}
theorem psh_ok {n : Nat} {v : Value} (h : psh n v S = some S')
    (row : ∀ (H : Heap) (locs : List Loc) (ls : Array Slot) (rest : List Value), W p l e R s m args below meth c H locs cells slots Qr (F0 m (S.1 + n) ls (rl G.2.1 v :: rest)) → W p l e R s m args below meth c H locs cells slots Qr (F0 m S.1 ls rest)) :
    SOK p l e R s m args below meth c cells slots Qr G nL S S' := by
  obtain ⟨pc, L, st, M, P⟩ := S
  cases h
  exact ⟨id, fun _ k H locs ls hR hL => row H locs ls _ (k H locs ls hR hL)⟩
theorem ar2_ok {g : Int32 → Int32 → Int32} (h : ar2 g S = some S')
    (row : ∀ (H : Heap) (locs : List Loc) (ls : Array Slot) (rest : List Value) (x y : Int32), W p l e R s m args below meth c H locs cells slots Qr (F0 m (S.1 + 1) ls (.int (g x y) :: rest)) → W p l e R s m args below meth c H locs cells slots Qr (F0 m S.1 ls (.int y :: .int x :: rest))) :
    SOK p l e R s m args below meth c cells slots Qr G nL S S' := by
  obtain ⟨pc, L, st, M, P⟩ := S
  unfold ar2 at h
  split at h
  · rename_i heq
    cases heq
    cases h
    exact ⟨id, fun _ k H locs ls hR hL => row H locs ls _ _ _ (k H locs ls hR hL)⟩
  · cases h
theorem ar2d_ok {g : Int32 → Int32 → Int32} (h : ar2d g S = some S')
    (row : ∀ (H : Heap) (locs : List Loc) (ls : Array Slot) (rest : List Value) (x y : Int32), ¬ y = 0 → W p l e R s m args below meth c H locs cells slots Qr (F0 m (S.1 + 1) ls (.int (g x y) :: rest)) → W p l e R s m args below meth c H locs cells slots Qr (F0 m S.1 ls (.int y :: .int x :: rest))) :
    SOK p l e R s m args below meth c cells slots Qr G nL S S' := by
  obtain ⟨pc, L, st, M, P⟩ := S
  unfold ar2d at h
  split at h
  · rename_i heq
    cases heq
    cases h
    exact ⟨And.left, fun hP k H locs ls hR hL => row H locs ls _ _ _ hP.2 (k H locs ls hR hL)⟩
  · cases h
theorem ar1_ok {g : Int32 → Int32} (h : ar1 g S = some S')
    (row : ∀ (H : Heap) (locs : List Loc) (ls : Array Slot) (rest : List Value) (x : Int32), W p l e R s m args below meth c H locs cells slots Qr (F0 m (S.1 + 1) ls (.int (g x) :: rest)) → W p l e R s m args below meth c H locs cells slots Qr (F0 m S.1 ls (.int x :: rest))) :
    SOK p l e R s m args below meth c cells slots Qr G nL S S' := by
  obtain ⟨pc, L, st, M, P⟩ := S
  unfold ar1 at h
  split at h
  · rename_i heq
    cases heq
    cases h
    exact ⟨id, fun _ k H locs ls hR hL => row H locs ls _ _ (k H locs ls hR hL)⟩
  · cases h
variable (hx : p.tables.exec = Jvm.exec) {cc : ByteArray} (hb : c.code = cc)
theorem xlad_ok (h : xlad S = some S') (hx : p.tables.exec = Jvm.exec) (hb : c.code = cc) (hd : decode cc S.1 = .ok (.ladd, 1)) : SOK p l e R s m args below meth c cells slots Qr G nL S S' := by
  obtain ⟨pc, L, st, M, P⟩ := S
  unfold xlad at h
  split at h
  · rename_i heq
    cases heq
    cases h
    exact ⟨id, fun _ k H locs ls hR hL => lv_ladd hx hb hd (k H locs ls hR hL)⟩
  · cases h
theorem xlcm_ok (h : xlcm S = some S') (hx : p.tables.exec = Jvm.exec) (hb : c.code = cc) (hd : decode cc S.1 = .ok (.lcmp, 1)) : SOK p l e R s m args below meth c cells slots Qr G nL S S' := by
  obtain ⟨pc, L, st, M, P⟩ := S
  unfold xlcm at h
  split at h
  · rename_i heq
    cases heq
    cases h
    exact ⟨id, fun _ k H locs ls hR hL => W.lcmp hx hb hd (k H locs ls hR hL)⟩
  · cases h
theorem xdup_ok (h : xdup S = some S') (hx : p.tables.exec = Jvm.exec) (hb : c.code = cc) (hd : decode cc S.1 = .ok (.dup, 1)) : SOK p l e R s m args below meth c cells slots Qr G nL S S' := by
  obtain ⟨pc, L, st, M, P⟩ := S
  unfold xdup at h
  split at h
  · rename_i heq
    cases heq
    cases h
    exact ⟨id, fun _ k H locs ls hR hL => lv_dup hx hb hd rfl (k H locs ls hR hL)⟩
  · rename_i heq
    cases heq
    cases h
    exact ⟨id, fun _ k H locs ls hR hL => lv_dup hx hb hd rfl (k H locs ls hR hL)⟩
  · cases h
theorem xdup2_ok (h : xdup2 S = some S') (hx : p.tables.exec = Jvm.exec) (hb : c.code = cc) (hd : decode cc S.1 = .ok (.dup2, 1)) : SOK p l e R s m args below meth c cells slots Qr G nL S S' := by
  obtain ⟨pc, L, st, M, P⟩ := S
  unfold xdup2 at h
  split at h
  · rename_i heq
    cases heq
    cases h
    exact ⟨id, fun _ k H locs ls hR hL => lv_dup2_11 hx hb hd rfl rfl (k H locs ls hR hL)⟩
  · cases h
theorem xpop_ok (h : xpop S = some S') (hx : p.tables.exec = Jvm.exec) (hb : c.code = cc) (hd : decode cc S.1 = .ok (.pop, 1)) : SOK p l e R s m args below meth c cells slots Qr G nL S S' := by
  obtain ⟨pc, L, st, M, P⟩ := S
  unfold xpop at h
  split at h
  · rename_i heq
    cases heq
    cases h
    exact ⟨id, fun _ k H locs ls hR hL => lv_pop hx hb hd rfl (k H locs ls hR hL)⟩
  · cases h
theorem xgoto_ok {off : Int} (h : xgoto off S = some S') (hx : p.tables.exec = Jvm.exec) (hb : c.code = cc) (hd : decode cc S.1 = .ok (.goto off, 3)) : SOK p l e R s m args below meth c cells slots Qr G nL S S' := by
  obtain ⟨pc, L, st, M, P⟩ := S
  unfold xgoto at h
  dsimp only at h
  split at h
  · rename_i t heq
    cases h
    exact ⟨id, fun _ k H locs ls hR hL => lv_goto hx hb hd heq (k H locs ls hR hL)⟩
  · cases h
theorem ldi_ok {n i : Nat} (h : ldi n i S = some S')
    (row : ∀ (H : Heap) (locs : List Loc) (ls : Array Slot) (rest : List Value) (x : Int32), ls[i]? = some (.val (.int x)) → W p l e R s m args below meth c H locs cells slots Qr (F0 m (S.1 + n) ls (.int x :: rest)) → W p l e R s m args below meth c H locs cells slots Qr (F0 m S.1 ls rest)) :
    SOK p l e R s m args below meth c cells slots Qr G nL S S' := by
  obtain ⟨pc, L, st, M, P⟩ := S
  unfold ldi at h
  dsimp only at h
  split at h
  · rename_i v heq
    cases h
    exact ⟨id, fun _ k H locs ls hR hL => row H locs ls _ _ (hL.at heq) (k H locs ls hR hL)⟩
  · cases h
theorem lda_ok {n i : Nat} (h : lda n i S = some S')
    (row : ∀ (H : Heap) (locs : List Loc) (ls : Array Slot) (rest : List Value) (x : Nat), ls[i]? = some (.val (.ref x)) → W p l e R s m args below meth c H locs cells slots Qr (F0 m (S.1 + n) ls (.ref x :: rest)) → W p l e R s m args below meth c H locs cells slots Qr (F0 m S.1 ls rest)) :
    SOK p l e R s m args below meth c cells slots Qr G nL S S' := by
  obtain ⟨pc, L, st, M, P⟩ := S
  unfold lda at h
  dsimp only at h
  split at h
  · rename_i v heq
    cases h
    exact ⟨id, fun _ k H locs ls hR hL => row H locs ls _ _ (hL.at heq) (k H locs ls hR hL)⟩
  · cases h
theorem blt_of {a b : Nat} (h : Nat.blt a b = true) : a < b := Nat.le_of_ble_eq_true h
theorem sti_ok {n i : Nat} (h : sti n i S = some S')
    (row : ∀ (H : Heap) (locs : List Loc) (ls : Array Slot) (rest : List Value) (x : Int32) (lv : List (Nat × Value)), lv_has ls nL lv → i < nL → (∀ ls' : Array Slot, lv_has ls' nL ((i, .int x) :: lv.filter (fun q => !(q.1 == i) && !(q.1 + 1 == i && q.2.category == 2))) → W p l e R s m args below meth c H locs cells slots Qr (F0 m (S.1 + n) ls' rest)) → W p l e R s m args below meth c H locs cells slots Qr (F0 m S.1 ls (.int x :: rest))) :
    SOK p l e R s m args below meth c cells slots Qr G nL S S' := by
  obtain ⟨pc, L, st, M, P⟩ := S
  unfold sti at h
  split at h
  · rename_i heq
    cases heq
    cases hlt : Nat.blt i L.length with
    | false => rw [hlt] at h; cases h
    | true =>
      rw [hlt] at h
      cases h
      have hi := blt_of hlt
      exact ⟨id, fun _ k H locs ls hR hL => row H locs ls _ _ _ hL.2.1 (by rw [← hL.1]; exact hi) (fun ls' h' => k H locs ls' hR (hL.store hi rfl h'))⟩
  · cases h
theorem sta_ok {n i : Nat} (h : sta n i S = some S')
    (row : ∀ (H : Heap) (locs : List Loc) (ls : Array Slot) (rest : List Value) (x : Nat) (lv : List (Nat × Value)), lv_has ls nL lv → i < nL → (∀ ls' : Array Slot, lv_has ls' nL ((i, .ref x) :: lv.filter (fun q => !(q.1 == i) && !(q.1 + 1 == i && q.2.category == 2))) → W p l e R s m args below meth c H locs cells slots Qr (F0 m (S.1 + n) ls' rest)) → W p l e R s m args below meth c H locs cells slots Qr (F0 m S.1 ls (.ref x :: rest))) :
    SOK p l e R s m args below meth c cells slots Qr G nL S S' := by
  obtain ⟨pc, L, st, M, P⟩ := S
  unfold sta at h
  split at h
  · rename_i heq
    cases heq
    cases hlt : Nat.blt i L.length with
    | false => rw [hlt] at h; cases h
    | true =>
      rw [hlt] at h
      cases h
      have hi := blt_of hlt
      exact ⟨id, fun _ k H locs ls hR hL => row H locs ls _ _ _ hL.2.1 (by rw [← hL.1]; exact hi) (fun ls' h' => k H locs ls' hR (hL.store hi rfl h'))⟩
  · cases h
theorem inc_ok {i : Nat} {k : Int} (h : inc i k S = some S') (hx : p.tables.exec = Jvm.exec) (hb : c.code = cc) (hd : decode cc S.1 = .ok (.iinc i k, 3)) : SOK p l e R s m args below meth c cells slots Qr G nL S S' := by
  obtain ⟨pc, L, st, M, P⟩ := S
  unfold inc at h
  dsimp only at h
  split at h
  · rename_i v heq
    cases h
    refine ⟨id, fun _ kk H locs ls hR hL => ?_⟩
    have hi : i < nL := hL.lt heq
    have hmem : (i, Value.int v) ∈ al G.2.1 L := al_mem.mpr ⟨_, heq, rfl⟩
    obtain ⟨j, hj⟩ := List.getElem?_of_mem hmem
    exact lv_iinc (k := j) hx hb hd hL.2.1 hj rfl hi rfl (fun ls' h' => kk H locs ls' hR (hL.store (v := .int _) (by rw [hL.1]; exact hi) rfl h'))
  · cases h
end SND
end
section
/-! ===== fields, statics and rows: the steps that read and write cells ===== -/
theorem ky_lt {o idx : Nat} {α : Type} {r : α} {f : Nat → Option α} (hf : f 1000000 = none) (h : f (ky o idx) = some r) : idx < 1000 ∧ ky o idx = o * 1000 + idx := by
  unfold ky at h ⊢
  cases hb : Nat.blt idx 1000 with
  | false => rw [hb] at h; rw [show (bif false then o * 1000 + idx else 1000000) = 1000000 from rfl, hf] at h; cases h
  | true => exact ⟨Nat.le_of_ble_eq_true hb, rfl⟩
theorem ky_div {o idx : Nat} (h : idx < 1000) : (o * 1000 + idx) / 1000 = o ∧ (o * 1000 + idx) % 1000 = idx := by omega
theorem fld_at {o idx ci k : Nat} (h : fldR (ky o idx) = some (ci, k)) : (Cond.fieldLink (RXn o) idx (TXn ci k).1 (TXn ci k).2.1 (TXn ci k).2.2.1) ∈ gTbl ∧ ci < 7 ∧ k < nXn ci := by
  obtain ⟨hi, hk⟩ := ky_lt (f := fldR) rfl h
  have hc := fld_ok (ky o idx)
  unfold fldC at hc
  rw [h, hk] at hc
  obtain ⟨e1, e2⟩ := ky_div (o := o) hi
  rw [e1, e2] at hc
  simp only [Bool.and_eq_true, decide_eq_true_eq] at hc
  exact ⟨inAt_g hc.1.1 rfl, hc.1.2, hc.2⟩
theorem stt_at {o idx j : Nat} {b : Bool} (h : sttR (ky o idx) = some (j, b)) : (if b = true then (Cond.fieldLinkNest (RXn o) idx "SlabYard" (stN j) "[I" "SlabYard") ∈ lw_tbl else (Cond.fieldLink (RXn o) idx "SlabYard" (stN j) "[I") ∈ gTbl) ∧ j < 4 := by
  obtain ⟨hi, hk⟩ := ky_lt (f := sttR) rfl h
  have hc := stt_ok (ky o idx)
  unfold sttC at hc
  rw [h, hk] at hc
  obtain ⟨e1, e2⟩ := ky_div (o := o) hi
  rw [e1, e2] at hc
  simp only [Bool.and_eq_true, decide_eq_true_eq] at hc
  cases b with
  | true => exact ⟨inAt_lw hc.1, hc.2⟩
  | false => exact ⟨inAt_g hc.1 rfl, hc.2⟩
theorem cst_at {o idx : Nat} {v : Int32} (h : cstR (ky o idx) = some v) : (Jvm.Cond.constant (RXn o) idx v) ∈ gTbl := by
  obtain ⟨hi, hk⟩ := ky_lt (f := cstR) rfl h
  have hc := cst_ok (ky o idx)
  unfold cstC at hc
  rw [h, hk] at hc
  obtain ⟨e1, e2⟩ := ky_div (o := o) hi
  rw [e1, e2] at hc
  exact inAt_g hc rfl
theorem csl_at {o idx : Nat} {v : Int64} (h : cslR (ky o idx) = some v) : (Jvm.Cond.constantLong (RXn o) idx v) ∈ gTbl := by
  obtain ⟨hi, hk⟩ := ky_lt (f := cslR) rfl h
  have hc := csl_ok (ky o idx)
  unfold cslC at hc
  rw [h, hk] at hc
  obtain ⟨e1, e2⟩ := ky_div (o := o) hi
  rw [e1, e2] at hc
  exact inAt_g hc rfl
theorem WS.wr {G : Gx} {M : Mem} {s : State} {p k : Nat} {v : Int32} (hp : p < nPl) (h : WS G M s) : WS G (wr M p k v) s := by
  have h1 : (104 : Nat) ≠ p := by unfold nPl at hp; omega
  have h2 : (105 : Nat) ≠ p := by unfold nPl at hp; omega
  obtain ⟨N, a, b, c⟩ := h
  exact ⟨N, by rw [wr_ne M h1]; exact a, by rw [wr_ne M h2]; exact b, c⟩
theorem WS.wrL {G : Gx} {M : Mem} {s : State} {p : Nat} {v : Int64} (h : WS G M s) : WS G (wrL M p v) s := h
theorem cellE_obj {G : Gx} {M : Mem} {p ci : Nat} (h : (layF p).1 = ci) (hc : ci < 7) : cellE G M p (layF p) = .inr (ci, (layF p).2.2.mapIdx (fun k c => rl G.2.1 (fvA M p k c))) := by
  unfold cellE
  rw [h, if_pos hc]
theorem cellE_row {G : Gx} {M : Mem} {p kd : Nat} (h : (layF p).1 = kd) (hc : ¬ kd < 7) : cellE G M p (layF p) = .inl (G.2.2.1 kd, (layF p).2.1, .inl (M.1 p)) := by
  unfold cellE
  rw [h, if_neg hc]
section CEL
variable {p : Program} {l : Launch} {e : Env} {R : Room} {s : State} {m : MethodId} {args : Array Value} {below : List Frame} {meth : Method} {c : Code} {cells slots : Nat} {Qr : State → Prop} {G : Gx}
variable {mi : Mi} {d nL : Nat} {S S' : St}
theorem xget_ok {idx : Nat} (h : xget mi.1 idx S = some S') (C : CX G mi d p R s m args c cells slots) (hd : decode mi.2.1 S.1 = .ok (.getfield idx, 3)) : SOK p l e R s m args below meth c cells slots Qr G nL S S' := by
  obtain ⟨hx, hb, -, hown, hts, -, -, -, -, ⟨hK, -, -⟩, -⟩ := C
  obtain ⟨pc, L, st, M, P⟩ := S
  unfold xget at h
  split at h
  · rename_i pl st' M' P' heq
    cases heq
    split at h
    · rename_i ci k hf
      obtain ⟨hw, hci, hk⟩ := fld_at hf
      cases hg : (Nat.blt pl nPl && Nat.beq (layF pl).1 ci) with
      | false => rw [hg] at h; cases h
      | true =>
        rw [hg] at h
        simp only [Bool.and_eq_true] at hg
        have hpl := blt_of hg.1
        have hl := Nat.eq_of_beq_eq_true hg.2
        dsimp only [cond_true] at h
        split at h
        · rename_i cd hcd
          cases h
          refine ⟨id, fun _ k' H locs ls hR hL => ?_⟩
          refine va_get (D := G.1) (ci := ci) (v := rl G.2.1 (fvA M pl k cd)) hx hb hts (uwsIn ci hci) hown hK hR.1 pl (by rw [wl_at G M hpl, cellE_obj hl hci]) (vwCl_at ci hci) k hk (hts _ hw) (fun _ h => h) ?_ hd (k' H locs ls hR hL)
          rw [List.getElem?_mapIdx, hcd]
          rfl
        · cases h
    · cases h
  · cases h
theorem lg_uniq {p k : Nat} (h : lgOK p k = true) : (layF p).2.2[k]? = some 1 ∧ ∀ j, (layF p).2.2[j]? = some 1 → j = k := by
  unfold lgOK at h
  simp only [Bool.or_eq_true, Bool.and_eq_true] at h
  have key : ∀ (L : List Nat) (k n : Nat), L.length = n → (∀ j, j < n → L[j]? = some 1 → j = k) → ∀ j, L[j]? = some 1 → j = k := by
    intro L k n hn hh j hj
    exact hh j (by rw [← hn]; exact (List.getElem?_eq_some_iff.mp hj).1) hj
  rcases h with ⟨h1, h2⟩ | ⟨h1, h2⟩
  · have e1 := Nat.eq_of_beq_eq_true h1
    have e2 := Nat.eq_of_beq_eq_true h2
    subst e1; subst e2
    exact ⟨by decide +kernel, key _ _ 12 (by decide +kernel) (by decide +kernel)⟩
  · have e1 := Nat.eq_of_beq_eq_true h1
    have e2 := Nat.eq_of_beq_eq_true h2
    subst e1; subst e2
    exact ⟨by decide +kernel, key _ _ 12 (by decide +kernel) (by decide +kernel)⟩
theorem xput_ok {idx : Nat} (h : xput mi.1 idx S = some S') (C : CX G mi d p R s m args c cells slots) (hd : decode mi.2.1 S.1 = .ok (.putfield idx, 3)) : SOK p l e R s m args below meth c cells slots Qr G nL S S' := by
  obtain ⟨hx, hb, -, hown, hts, -, -, -, -, ⟨hK, -, -⟩, -⟩ := C
  obtain ⟨pc, L, st, M, P⟩ := S
  unfold xput at h
  split at h
  · rename_i v pl st' M' P' heq
    cases heq
    split at h
    · rename_i ci k hf
      obtain ⟨hw, hci, hk⟩ := fld_at hf
      cases hg : (Nat.blt pl nPl && Nat.beq (layF pl).1 ci && !(TXn ci k).2.2.2) with
      | false => rw [hg] at h; cases h
      | true =>
        rw [hg] at h
        simp only [Bool.and_eq_true, Bool.not_eq_true'] at hg
        have hpl := blt_of hg.1.1
        have hl := Nat.eq_of_beq_eq_true hg.1.2
        dsimp only [cond_true] at h
        have hle : layF pl = (ci, (layF pl).2.1, (layF pl).2.2) := by rw [← hl]
        have key : ∀ (ty : FieldType), tyn ci k = ty → (layF pl).2.2[k]? = some 0 → narrow ty (.int v) = .int v → Jvm.fits ty (.int v) = true → (∀ (H : Heap) (locs : List Loc) (ls : Array Slot), Rp G s (wr M pl k v) H locs → LR G.2.1 nL L ls → W p l e R s m args below meth c H locs cells slots Qr (F0 m (pc + 3) ls (st'.map (rl G.2.1)))) → ∀ (H : Heap) (locs : List Loc) (ls : Array Slot), Rp G s M H locs → LR G.2.1 nL L ls → W p l e R s m args below meth c H locs cells slots Qr (F0 m pc ls (.int v :: .ref (G.2.1 pl) :: st'.map (rl G.2.1))) := by
          intro ty hty hcd hn hft kk H locs ls hR hL
          refine va_put (D := G.1) (ci := ci) (v := .int v) (ty := ty) hx hb hts (uwsIn ci hci) (tyn ci) (tyn_ok ci hci) (nmn ci hci) hown hK hR.1 hR.2.1 hR.2.2.1 pl (by rw [wl_at G M hpl, cellE_obj hl hci]) (vwCl_at ci hci) k hk (hts _ hw) (fun _ h => h) hg.2 (by rw [tyn_ok ci hci k hk, hty]) hn hft ?_ hd (fun H1 locs1 hP1 hD1 hS1 => ?_)
          · rw [List.length_mapIdx]
            exact (List.getElem?_eq_some_iff.mp hcd).1
          · rw [wl_wr G M hpl hle hci hcd] at hP1 hD1
            exact kk H1 locs1 ls ⟨hP1, hD1, hS1, hR.2.2.2.wr hpl⟩ hL
        split at h
        · rename_i hcd hty
          cases h
          exact ⟨id, fun _ k' H locs ls hR hL => key .int hty hcd rfl rfl k' H locs ls hR hL⟩
        · rename_i hcd hty
          cases h
          refine ⟨And.left, fun hP k' H locs ls hR hL => key .boolean hty hcd ?_ ?_ k' H locs ls hR hL⟩
          · rcases hP.2 with e | e <;> rw [e] <;> rfl
          · rcases hP.2 with e | e <;> rw [e] <;> rfl
        · cases h
    · cases h
  · rename_i v pl st' M' P' heq
    cases heq
    split at h
    · rename_i ci k hf
      obtain ⟨hw, hci, hk⟩ := fld_at hf
      cases hg : (Nat.blt pl nPl && Nat.beq (layF pl).1 ci && !(TXn ci k).2.2.2 && lgOK pl k) with
      | false => rw [hg] at h; cases h
      | true =>
        rw [hg] at h
        cases h
        simp only [Bool.and_eq_true, Bool.not_eq_true'] at hg
        have hpl := blt_of hg.1.1.1
        have hl := Nat.eq_of_beq_eq_true hg.1.1.2
        have hle : layF pl = (ci, (layF pl).2.1, (layF pl).2.2) := by rw [← hl]
        obtain ⟨hcd, hu⟩ := lg_uniq hg.2
        have hty : tyn ci k = .long := by
          have h3 := hg.2
          unfold lgOK at h3
          simp only [Bool.or_eq_true, Bool.and_eq_true] at h3
          rcases h3 with ⟨h1, h2⟩ | ⟨h1, h2⟩
          · have e1 := Nat.eq_of_beq_eq_true h1
            have e2 := Nat.eq_of_beq_eq_true h2
            subst e1; subst e2
            rw [← hl]
            rfl
          · have e1 := Nat.eq_of_beq_eq_true h1
            have e2 := Nat.eq_of_beq_eq_true h2
            subst e1; subst e2
            rw [← hl]
            rfl
        refine ⟨id, fun _ kk H locs ls hR hL => ?_⟩
        refine va_put (D := G.1) (ci := ci) (v := .long v) (ty := .long) hx hb hts (uwsIn ci hci) (tyn ci) (tyn_ok ci hci) (nmn ci hci) hown hK hR.1 hR.2.1 hR.2.2.1 pl (by rw [wl_at G M hpl, cellE_obj hl hci]) (vwCl_at ci hci) k hk (hts _ hw) (fun _ h => h) hg.1.2 (by rw [tyn_ok ci hci k hk, hty]) rfl rfl ?_ hd (fun H1 locs1 hP1 hD1 hS1 => ?_)
        · rw [List.length_mapIdx]
          exact (List.getElem?_eq_some_iff.mp hcd).1
        · rw [wl_wrL G M hpl hle hci hcd hu] at hP1 hD1
          exact kk H1 locs1 ls ⟨hP1, hD1, hS1, hR.2.2.2.wrL⟩ hL
    · cases h
  · cases h
theorem xsta_ok {idx : Nat} (h : xsta mi.1 idx S = some S') (C : CX G mi d p R s m args c cells slots) (hd : decode mi.2.1 S.1 = .ok (.getstatic idx, 3)) : SOK p l e R s m args below meth c cells slots Qr G nL S S' := by
  obtain ⟨hx, hb, -, hown, hts, -, -, -, -, ⟨hK, hN, hZ⟩, -⟩ := C
  obtain ⟨pc, L, st, M, P⟩ := S
  unfold xsta at h
  dsimp only at h
  split at h
  · rename_i j b hf
    cases h
    obtain ⟨hw, hj⟩ := stt_at hf
    refine ⟨id, fun _ k' H locs ls hR hL => ?_⟩
    cases b with
    | true => exact va_getsN hx hb (hZ j hj).1 hR.2.2.1 hown ((hN _ (List.mem_filter.mpr ⟨hw, rfl⟩)).use rfl) (fun _ h => h) hd (k' H locs ls hR hL)
    | false => exact va_gets hx hb (hZ j hj).1 hR.2.2.1 hown (hts _ hw) (fun _ h => h) hd (k' H locs ls hR hL)
  · cases h
theorem rdA_row {M : Mem} {q kd n : Nat} {g : Nat → Int32} (h : rdA M q = some (kd, n, g)) : (q < nPl ∧ ¬ kd < 7 ∧ (layF q).1 = kd ∧ (layF q).2.1 = n ∧ g = M.1 q) ∨ (∃ j, j < 4 ∧ q = 100 + j ∧ kd = 20 ∧ n = 4 ∧ g = stV j) ∨ (q = 104 ∧ kd = 20 ∧ n = (M.1 105 0).toNatClampNeg ∧ g = M.1 104) := by
  unfold rdA at h
  cases h1 : Nat.blt q nPl with
  | true =>
    rw [h1] at h
    dsimp only [cond_true] at h
    cases h2 : Nat.blt (layF q).1 7 with
    | true => rw [h2] at h; cases h
    | false =>
      rw [h2] at h
      cases h
      refine Or.inl ⟨blt_of h1, fun hlt => ?_, rfl, rfl, rfl⟩
      rw [show Nat.blt (layF q).1 7 = true from Nat.ble_eq_true_of_le hlt] at h2
      cases h2
  | false =>
    rw [h1] at h
    dsimp only [cond_false] at h
    cases h2 : Nat.blt q 100 with
    | true => rw [h2] at h; cases h
    | false =>
      rw [h2] at h
      dsimp only [cond_false] at h
      have h2' : 100 ≤ q := Nat.not_lt.mp fun hlt => by
        rw [show Nat.blt q 100 = true from Nat.ble_eq_true_of_le hlt] at h2
        cases h2
      cases h3 : Nat.blt q 104 with
      | true =>
        rw [h3] at h
        cases h
        have := blt_of h3
        exact Or.inr (Or.inl ⟨q - 100, by omega, by omega, rfl, rfl, rfl⟩)
      | false =>
        rw [h3] at h
        dsimp only [cond_false] at h
        cases h4 : Nat.beq q 104 with
        | true =>
          rw [h4] at h
          cases h
          exact Or.inr (Or.inr ⟨Nat.eq_of_beq_eq_true h4, rfl, rfl, rfl⟩)
        | false => rw [h4] at h; cases h
theorem xald_row {kd : Nat} {i : Int32} {q : Nat} {st' : List Value} {pc : Nat} {L : List (Option Value)} {M : Mem} {P : Prop} (h : xald kd (pc, L, .int i :: .ref q :: st', M, P) = some S') : ∃ n g, rdA M q = some (kd, n, g) ∧ S' = (pc + 1, L, .int (g i.toNatClampNeg) :: st', M, P ∧ vp_in i n) := by
  unfold xald at h
  dsimp only at h
  split at h
  · rename_i kd' n g hr
    cases hb : Nat.beq kd' kd with
    | false => rw [hb] at h; cases h
    | true =>
      rw [hb] at h
      cases h
      have := Nat.eq_of_beq_eq_true hb
      subst this
      exact ⟨n, g, hr, rfl⟩
  · cases h
theorem xiald_ok (h : xald 20 S = some S') (C : CX G mi d p R s m args c cells slots) (hd : decode mi.2.1 S.1 = .ok (.iaload, 1)) : SOK p l e R s m args below meth c cells slots Qr G nL S S' := by
  obtain ⟨hx, hb, -, hown, hts, -, -, -, -, ⟨hK, hN, hZ⟩, -⟩ := C
  obtain ⟨pc, L, st, M, P⟩ := S
  match st, h with
  | .int i :: .ref q :: st', h =>
    obtain ⟨n, g, hr, rfl⟩ := xald_row h
    refine ⟨And.left, fun hP k' H locs ls hR hL => ?_⟩
    rcases rdA_row hr with ⟨h1, h2, h3, h4, rfl⟩ | ⟨j, h1, rfl, -, rfl, rfl⟩ | ⟨rfl, -, rfl, rfl⟩
    · exact va_iald (D := G.1) hx hb hK hR.1 q 0 (by rw [wl_at G M h1, cellE_row h3 h2, h4]) rfl hP.2 hd (k' H locs ls hR hL)
    · exact va_ti hx hb (hZ j h1).2 hR.2.2.1 hP.2 rfl hd (k' H locs ls hR hL)
    · obtain ⟨N, hT, hN1, hN2⟩ := hR.2.2.2
      have e : (M.1 105 0).toNatClampNeg = N := by rw [← hN1]; exact Int32.toNatClampNeg_ofNat_of_lt hN2
      rw [e] at hP
      exact va_ti hx hb hT hR.2.2.1 hP.2 rfl hd (k' H locs ls hR hL)
  | [], h => cases h
  | [_], h => first | cases h | (rename_i v; cases v <;> cases h)
  | .int _ :: .int _ :: _, h => cases h
  | .int _ :: .long _ :: _, h => cases h
  | .int _ :: .float _ :: _, h => cases h
  | .int _ :: .double _ :: _, h => cases h
  | .int _ :: .null :: _, h => cases h
  | .int _ :: .retAddr _ :: _, h => cases h
  | .long _ :: _ :: _, h => cases h
  | .float _ :: _ :: _, h => cases h
  | .double _ :: _ :: _, h => cases h
  | .null :: _ :: _, h => cases h
  | .ref _ :: _ :: _, h => cases h
  | .retAddr _ :: _ :: _, h => cases h
theorem xbld_ok (h : xbld S = some S') : SOK p l e R s m args below meth c cells slots Qr G nL S S' := by cases h
theorem xast_row {kd : Nat} {nar : Int32 → Int32} {i v : Int32} {q : Nat} {st' : List Value} {pc : Nat} {L : List (Option Value)} {M : Mem} {P : Prop} (h : xast kd nar (pc, L, .int v :: .int i :: .ref q :: st', M, P) = some S') : q < nPl ∧ (layF q).1 = kd ∧ S' = (pc + 1, L, st', wr M q i.toNatClampNeg (nar v), P ∧ vp_in i (layF q).2.1) := by
  unfold xast at h
  dsimp only at h
  cases hb : (Nat.blt q nPl && Nat.beq (layF q).1 kd) with
  | false => rw [hb] at h; cases h
  | true =>
    rw [hb] at h
    cases h
    simp only [Bool.and_eq_true] at hb
    exact ⟨blt_of hb.1, Nat.eq_of_beq_eq_true hb.2, rfl⟩
theorem xiast_ok (h : xast 20 (fun v => v) S = some S') (C : CX G mi d p R s m args c cells slots) (hd : decode mi.2.1 S.1 = .ok (.iastore, 1)) : SOK p l e R s m args below meth c cells slots Qr G nL S S' := by
  obtain ⟨hx, hb, -, hown, hts, -, -, -, -, ⟨hK, hN, hZ⟩, -⟩ := C
  obtain ⟨pc, L, st, M, P⟩ := S
  have h' := h
  unfold xast at h'
  split at h'
  · rename_i heq
    cases heq
    obtain ⟨h1, h3, rfl⟩ := xast_row h
    refine ⟨And.left, fun hP k' H locs ls hR hL => ?_⟩
    refine va_iast (D := G.1) hx hb hK hR.1 hR.2.1 hR.2.2.1 _ 0 (by rw [wl_at G M h1, cellE_row h3 (by decide)]) rfl hP.2 hd (fun H1 locs1 hP1 hD1 hS1 => ?_)
    rw [wl_wra G M h1 (show layF _ = (20, (layF _).2.1, (layF _).2.2) by rw [← h3]) (by decide)] at hP1 hD1
    exact k' H1 locs1 ls ⟨hP1, hD1, hS1, hR.2.2.2.wr h1⟩ hL
  · cases h'
theorem xbst_ok (h : xbst S = some S') : SOK p l e R s m args below meth c cells slots Qr G nL S S' := by cases h
theorem xlen_ok (h : xlen S = some S') (C : CX G mi d p R s m args c cells slots) (hd : decode mi.2.1 S.1 = .ok (.arraylength, 1)) : SOK p l e R s m args below meth c cells slots Qr G nL S S' := by
  obtain ⟨hx, hb, -, hown, hts, -, -, -, -, ⟨hK, hN, hZ⟩, -⟩ := C
  obtain ⟨pc, L, st, M, P⟩ := S
  unfold xlen at h
  split at h
  · rename_i q st' M' P' heq
    cases heq
    cases hq : Nat.beq q 104 with
    | false =>
      rw [hq] at h
      dsimp only [cond_false] at h
      cases hr : (Nat.ble 100 q && Nat.blt q 104) with
      | false => rw [hr] at h; cases h
      | true =>
        rw [hr] at h
        cases h
        simp only [Bool.and_eq_true] at hr
        have h1 := Nat.le_of_ble_eq_true hr.1
        have h2 := blt_of hr.2
        obtain ⟨j, rfl⟩ : ∃ j : Nat, q = 100 + j := ⟨Nat.sub q 100, (Nat.add_sub_cancel' h1).symm⟩
        have hj : j < 4 := Nat.lt_of_add_lt_add_left (show 100 + j < 100 + 4 from h2)
        refine ⟨id, fun _ k' H locs ls hR hL => ?_⟩
        exact va_tlen hx hb (hZ j hj).2 hR.2.2.1 rfl hd (k' H locs ls hR hL)
    | true =>
      rw [hq] at h
      cases h
      have := Nat.eq_of_beq_eq_true hq
      subst this
      refine ⟨id, fun _ k' H locs ls hR hL => ?_⟩
      obtain ⟨N, hT, hN1, hN2⟩ := hR.2.2.2
      exact va_tlen hx hb hT hR.2.2.1 hN1 hd (k' H locs ls hR hL)
  · cases h
end CEL
end
section
/-! ===== steps together; the judgement of the abstract machine ===== -/
section STP
variable {p : Program} {l : Launch} {e : Env} {R : Room} {s : State} {m : MethodId} {args : Array Value} {below : List Frame} {meth : Method} {c : Code} {cells slots : Nat} {Qr : State → Prop} {G : Gx}
variable {mi : Mi} {d nL : Nat} {S S' : St}
set_option maxHeartbeats 4000000 in
theorem stp_ok {x : Instr × Nat} (h : stp mi.1 x S = some S') (C : CX G mi d p R s m args c cells slots) (hd : decode mi.2.1 S.1 = .ok x) : SOK p l e R s m args below meth c cells slots Qr G nL S S' := by
  obtain ⟨hx, hb, -, hown, hts, -⟩ := id C
  unfold stp at h
  split at h
  · exact psh_ok h (fun _ _ _ _ k => lv_iconst hx hb hd rfl k)
  · exact psh_ok h (fun _ _ _ _ k => lv_bipush hx hb hd rfl k)
  · exact psh_ok h (fun _ _ _ _ k => lv_sipush hx hb hd rfl k)
  · exact psh_ok h (fun _ _ _ _ k => lv_lconst hx hb hd rfl k)
  · unfold cic at h
    split at h
    · rename_i hc
      exact psh_ok h (fun _ _ _ _ k => lv_ldc hx hb hown (hts _ (cst_at hc)) hd k)
    · cases h
  · unfold cic at h
    split at h
    · rename_i hc
      exact psh_ok h (fun _ _ _ _ k => lv_ldcw hx hb hown (hts _ (cst_at hc)) hd k)
    · cases h
  · unfold cil at h
    split at h
    · rename_i hc
      exact psh_ok h (fun _ _ _ _ k => lv_ldc2 hx hb hown (hts _ (csl_at hc)) hd k)
    · cases h
  · exact ldi_ok h (fun _ _ _ _ _ hl k => lv_iload_n hx hb hd rfl hl k)
  · exact ldi_ok h (fun _ _ _ _ _ hl k => lv_iload hx hb hd hl k)
  · exact lda_ok h (fun _ _ _ _ _ hl k => lv_aload_n hx hb hd rfl hl k)
  · exact lda_ok h (fun _ _ _ _ _ hl k => lv_aload hx hb hd hl k)
  · exact sti_ok h (fun _ _ _ _ _ _ hl hn k => lv_istore_n hx hb hd rfl hl hn rfl k)
  · exact sti_ok h (fun _ _ _ _ _ _ hl hn k => lv_istore hx hb hd hl hn rfl k)
  · exact sta_ok h (fun _ _ _ _ _ _ hl hn k => lv_astore_n hx hb hd rfl hl hn rfl k)
  · exact sta_ok h (fun _ _ _ _ _ _ hl hn k => lv_astore hx hb hd hl hn rfl k)
  · exact inc_ok h hx hb hd
  · exact ar2_ok h (fun _ _ _ _ _ _ k => lv_iadd hx hb hd k)
  · exact ar2_ok h (fun _ _ _ _ _ _ k => lv_isub hx hb hd k)
  · exact ar2_ok h (fun _ _ _ _ _ _ k => lv_imul hx hb hd k)
  · exact ar2_ok h (fun _ _ _ _ _ _ k => lv_iand hx hb hd k)
  · exact ar2_ok h (fun _ _ _ _ _ _ k => lv_ior hx hb hd k)
  · exact ar2_ok h (fun _ _ _ _ _ _ k => lv_ixor hx hb hd k)
  · exact ar2_ok h (fun _ _ _ _ _ _ k => lv_ishl hx hb hd k)
  · exact ar2_ok h (fun _ _ _ _ _ _ k => lv_ishr hx hb hd k)
  · exact ar2_ok h (fun _ _ _ _ _ _ k => lv_iushr hx hb hd rfl k)
  · exact ar2d_ok h (fun _ _ _ _ _ _ hy k => lv_idiv hx hb hd hy k)
  · exact ar2d_ok h (fun _ _ _ _ _ _ hy k => lv_irem hx hb hd hy k)
  · exact ar1_ok h (fun _ _ _ _ _ k => lv_ineg hx hb hd k)
  · exact ar1_ok h (fun _ _ _ _ _ k => lv_i2b hx hb hd rfl k)
  · exact xlad_ok h hx hb hd
  · exact xlcm_ok h hx hb hd
  · exact xdup_ok h hx hb hd
  · exact xdup2_ok h hx hb hd
  · exact xpop_ok h hx hb hd
  · exact xgoto_ok h hx hb hd
  · exact xget_ok h C hd
  · exact xput_ok h C hd
  · exact xsta_ok h C hd
  · exact xiald_ok h C hd
  · exact xbld_ok h
  · exact xiast_ok h C hd
  · exact xbst_ok h
  · exact xlen_ok h C hd
  · cases h
theorem run_ok (C : CX G mi d p R s m args c cells slots) : ∀ (n : Nat) (S S' : St), run mi.1 mi.2.2.2.2.2 n S = some S' → SOK p l e R s m args below meth c cells slots Qr G nL S S'
  | 0, S, S', h => by cases h; exact ⟨id, fun _ k => k⟩
  | n + 1, S, S', h => by
    unfold run at h
    split at h
    · rename_i x hf
      split at h
      · rename_i S1 hs
        have h1 : SOK p l e R s m args below meth c cells slots Qr G nL S S1 := stp_ok hs C (C.2.2.2.2.2.2.2.2.2.2 _ _ hf)
        have h2 := run_ok C n S1 S' h
        exact ⟨fun q => h1.1 (h2.1 q), fun q k => h1.2 (h2.1 q) (h2.2 q k)⟩
      · cases h
    · cases h
end STP
/-- a method's end: the instruction, what lies on the stack, what is answered -/
def RetOk (ret : Option FieldType) (ins : Instr) (st : List Value) (rv : Option Value) : Prop :=
  (ins = .return_ ∧ ret = none ∧ st = [] ∧ rv = none) ∨ (∃ v ty, ins = .ireturn ∧ ret = some ty ∧ st = [.int v] ∧ rv = some (.int v) ∧ narrow ty (.int v) = .int v) ∨
  (∃ v, ins = .lreturn ∧ ret = some .long ∧ st = [.long v] ∧ rv = some (.long v)) ∨ (∃ q C, ins = .areturn ∧ ret = some (.object C) ∧ st = [.ref q] ∧ rv = some (.ref q))
/-- from here the method comes to its end, with Q of its answer and of the numbers then; calls at most d deep -/
def WX (mi : Mi) (d : Nat) (Q : Option Value → Mem → Prop) (pc : Nat) (L : List (Option Value)) (st : List Value) (M : Mem) : Prop :=
  ∀ (p : Program) (l : Launch) (e : Env) (R : Room) (s : State) (m : MethodId) (args : Array Value) (below : List Frame) (meth : Method) (c : Code) (cells slots : Nat) (Qr : State → Prop) (G : Gx),
    CX G mi d p R s m args c cells slots →
    (∀ (pc' : Nat) (L' : List (Option Value)) (st' : List Value) (M' : Mem) (ins : Instr) (rv : Option Value), mi.2.2.2.2.2 pc' = some (ins, 1) → RetOk mi.2.2.2.1 ins st' rv → Q rv M' → Wt p l e R s m args below meth c cells slots Qr G mi.2.2.1 pc' L' st' M') →
    Wt p l e R s m args below meth c cells slots Qr G mi.2.2.1 pc L st M
section WXR
variable {mi : Mi} {d : Nat} {Q Q' : Option Value → Mem → Prop} {pc pc' : Nat} {L L' : List (Option Value)} {st st' : List Value} {M M' : Mem}
theorem WX.run {P : Prop} (n : Nat) (h : run mi.1 mi.2.2.2.2.2 n (pc, L, st, M, True) = some (pc', L', st', M', P)) (hP : P) (k : WX mi d Q pc' L' st' M') : WX mi d Q pc L st M := by
  intro p l e R s m args below meth c cells slots Qr G C E
  exact (run_ok C n _ _ h).2 hP (k p l e R s m args below meth c cells slots Qr G C E)
theorem WX.mono (h : WX mi d Q pc L st M) (hq : ∀ rv M', Q rv M' → Q' rv M') : WX mi d Q' pc L st M := by
  intro p l e R s m args below meth c cells slots Qr G C E
  exact h p l e R s m args below meth c cells slots Qr G C (fun pc' L' st' M' ins rv h1 h2 h3 => E pc' L' st' M' ins rv h1 h2 (hq _ _ h3))
theorem WX.ret {ins : Instr} {rv : Option Value} (hf : mi.2.2.2.2.2 pc = some (ins, 1)) (hr : RetOk mi.2.2.2.1 ins st rv) (hq : Q rv M) : WX mi d Q pc L st M := by
  intro p l e R s m args below meth c cells slots Qr G C E
  exact E pc L st M ins rv hf hr hq
theorem WX.iret {v : Int32} (hf : mi.2.2.2.2.2 pc = some (.ireturn, 1)) (hr : mi.2.2.2.1 = some .int) (hq : Q (some (.int v)) M) : WX mi d Q pc L [.int v] M :=
  WX.ret hf (Or.inr (Or.inl ⟨v, .int, rfl, hr, rfl, rfl, rfl⟩)) hq
theorem WX.zret {v : Int32} (hf : mi.2.2.2.2.2 pc = some (.ireturn, 1)) (hr : mi.2.2.2.1 = some .boolean) (hv : v = 0 ∨ v = 1) (hq : Q (some (.int v)) M) : WX mi d Q pc L [.int v] M :=
  WX.ret hf (Or.inr (Or.inl ⟨v, .boolean, rfl, hr, rfl, rfl, by rcases hv with e | e <;> rw [e] <;> rfl⟩)) hq
theorem WX.lret {v : Int64} (hf : mi.2.2.2.2.2 pc = some (.lreturn, 1)) (hr : mi.2.2.2.1 = some .long) (hq : Q (some (.long v)) M) : WX mi d Q pc L [.long v] M :=
  WX.ret hf (Or.inr (Or.inr (Or.inl ⟨v, rfl, hr, rfl, rfl⟩))) hq
theorem WX.vret (hf : mi.2.2.2.2.2 pc = some (.return_, 1)) (hr : mi.2.2.2.1 = none) (hq : Q none M) : WX mi d Q pc L [] M :=
  WX.ret hf (Or.inl ⟨rfl, hr, rfl, rfl⟩) hq
theorem WX.aret {q : Nat} {K : String} (hf : mi.2.2.2.2.2 pc = some (.areturn, 1)) (hr : mi.2.2.2.1 = some (.object K)) (hq : Q (some (.ref q)) M) : WX mi d Q pc L [.ref q] M :=
  WX.ret hf (Or.inr (Or.inr (Or.inr ⟨q, K, rfl, hr, rfl, rfl⟩))) hq
theorem WX.if_eq {x : Int32} {off : Int} {tgt : Nat} (hf : mi.2.2.2.2.2 pc = some (.ifCond .eq off, 3)) (ht : (pc : Int) + off = (tgt : Int)) (kt : x = 0 → WX mi d Q tgt L st M) (kf : ¬ x = 0 → WX mi d Q (pc + 3) L st M) : WX mi d Q pc L (.int x :: st) M := by
  intro p l e R s m args below meth c cells slots Qr G C E H locs ls hR hL
  exact lv_if_eq C.1 C.2.1 (C.2.2.2.2.2.2.2.2.2.2 _ _ hf) ht (fun q => kt q p l e R s m args below meth c cells slots Qr G C E H locs ls hR hL) (fun q => kf q p l e R s m args below meth c cells slots Qr G C E H locs ls hR hL)
theorem WX.icmp_eq {x y : Int32} {off : Int} {tgt : Nat} (hf : mi.2.2.2.2.2 pc = some (.if_icmp .eq off, 3)) (ht : (pc : Int) + off = (tgt : Int)) (kt : x = y → WX mi d Q tgt L st M) (kf : ¬ x = y → WX mi d Q (pc + 3) L st M) : WX mi d Q pc L (.int y :: .int x :: st) M := by
  intro p l e R s m args below meth c cells slots Qr G C E H locs ls hR hL
  exact lv_icmp_eq C.1 C.2.1 (C.2.2.2.2.2.2.2.2.2.2 _ _ hf) ht (fun q => kt q p l e R s m args below meth c cells slots Qr G C E H locs ls hR hL) (fun q => kf q p l e R s m args below meth c cells slots Qr G C E H locs ls hR hL)
theorem WX.if_ne {x : Int32} {off : Int} {tgt : Nat} (hf : mi.2.2.2.2.2 pc = some (.ifCond .ne off, 3)) (ht : (pc : Int) + off = (tgt : Int)) (kt : ¬ x = 0 → WX mi d Q tgt L st M) (kf : x = 0 → WX mi d Q (pc + 3) L st M) : WX mi d Q pc L (.int x :: st) M := by
  intro p l e R s m args below meth c cells slots Qr G C E H locs ls hR hL
  exact lv_if_ne C.1 C.2.1 (C.2.2.2.2.2.2.2.2.2.2 _ _ hf) ht (fun q => kt q p l e R s m args below meth c cells slots Qr G C E H locs ls hR hL) (fun q => kf q p l e R s m args below meth c cells slots Qr G C E H locs ls hR hL)
theorem WX.icmp_ne {x y : Int32} {off : Int} {tgt : Nat} (hf : mi.2.2.2.2.2 pc = some (.if_icmp .ne off, 3)) (ht : (pc : Int) + off = (tgt : Int)) (kt : ¬ x = y → WX mi d Q tgt L st M) (kf : x = y → WX mi d Q (pc + 3) L st M) : WX mi d Q pc L (.int y :: .int x :: st) M := by
  intro p l e R s m args below meth c cells slots Qr G C E H locs ls hR hL
  exact lv_icmp_ne C.1 C.2.1 (C.2.2.2.2.2.2.2.2.2.2 _ _ hf) ht (fun q => kt q p l e R s m args below meth c cells slots Qr G C E H locs ls hR hL) (fun q => kf q p l e R s m args below meth c cells slots Qr G C E H locs ls hR hL)
theorem WX.if_lt {x : Int32} {off : Int} {tgt : Nat} (hf : mi.2.2.2.2.2 pc = some (.ifCond .lt off, 3)) (ht : (pc : Int) + off = (tgt : Int)) (kt : x < 0 → WX mi d Q tgt L st M) (kf : ¬ x < 0 → WX mi d Q (pc + 3) L st M) : WX mi d Q pc L (.int x :: st) M := by
  intro p l e R s m args below meth c cells slots Qr G C E H locs ls hR hL
  exact lv_if_lt C.1 C.2.1 (C.2.2.2.2.2.2.2.2.2.2 _ _ hf) ht (fun q => kt q p l e R s m args below meth c cells slots Qr G C E H locs ls hR hL) (fun q => kf q p l e R s m args below meth c cells slots Qr G C E H locs ls hR hL)
theorem WX.icmp_lt {x y : Int32} {off : Int} {tgt : Nat} (hf : mi.2.2.2.2.2 pc = some (.if_icmp .lt off, 3)) (ht : (pc : Int) + off = (tgt : Int)) (kt : x < y → WX mi d Q tgt L st M) (kf : ¬ x < y → WX mi d Q (pc + 3) L st M) : WX mi d Q pc L (.int y :: .int x :: st) M := by
  intro p l e R s m args below meth c cells slots Qr G C E H locs ls hR hL
  exact lv_icmp_lt C.1 C.2.1 (C.2.2.2.2.2.2.2.2.2.2 _ _ hf) ht (fun q => kt q p l e R s m args below meth c cells slots Qr G C E H locs ls hR hL) (fun q => kf q p l e R s m args below meth c cells slots Qr G C E H locs ls hR hL)
theorem WX.if_ge {x : Int32} {off : Int} {tgt : Nat} (hf : mi.2.2.2.2.2 pc = some (.ifCond .ge off, 3)) (ht : (pc : Int) + off = (tgt : Int)) (kt : 0 ≤ x → WX mi d Q tgt L st M) (kf : ¬ 0 ≤ x → WX mi d Q (pc + 3) L st M) : WX mi d Q pc L (.int x :: st) M := by
  intro p l e R s m args below meth c cells slots Qr G C E H locs ls hR hL
  exact lv_if_ge C.1 C.2.1 (C.2.2.2.2.2.2.2.2.2.2 _ _ hf) ht (fun q => kt q p l e R s m args below meth c cells slots Qr G C E H locs ls hR hL) (fun q => kf q p l e R s m args below meth c cells slots Qr G C E H locs ls hR hL)
theorem WX.icmp_ge {x y : Int32} {off : Int} {tgt : Nat} (hf : mi.2.2.2.2.2 pc = some (.if_icmp .ge off, 3)) (ht : (pc : Int) + off = (tgt : Int)) (kt : y ≤ x → WX mi d Q tgt L st M) (kf : ¬ y ≤ x → WX mi d Q (pc + 3) L st M) : WX mi d Q pc L (.int y :: .int x :: st) M := by
  intro p l e R s m args below meth c cells slots Qr G C E H locs ls hR hL
  exact lv_icmp_ge C.1 C.2.1 (C.2.2.2.2.2.2.2.2.2.2 _ _ hf) ht (fun q => kt q p l e R s m args below meth c cells slots Qr G C E H locs ls hR hL) (fun q => kf q p l e R s m args below meth c cells slots Qr G C E H locs ls hR hL)
theorem WX.if_gt {x : Int32} {off : Int} {tgt : Nat} (hf : mi.2.2.2.2.2 pc = some (.ifCond .gt off, 3)) (ht : (pc : Int) + off = (tgt : Int)) (kt : 0 < x → WX mi d Q tgt L st M) (kf : ¬ 0 < x → WX mi d Q (pc + 3) L st M) : WX mi d Q pc L (.int x :: st) M := by
  intro p l e R s m args below meth c cells slots Qr G C E H locs ls hR hL
  exact lv_if_gt C.1 C.2.1 (C.2.2.2.2.2.2.2.2.2.2 _ _ hf) ht (fun q => kt q p l e R s m args below meth c cells slots Qr G C E H locs ls hR hL) (fun q => kf q p l e R s m args below meth c cells slots Qr G C E H locs ls hR hL)
theorem WX.icmp_gt {x y : Int32} {off : Int} {tgt : Nat} (hf : mi.2.2.2.2.2 pc = some (.if_icmp .gt off, 3)) (ht : (pc : Int) + off = (tgt : Int)) (kt : y < x → WX mi d Q tgt L st M) (kf : ¬ y < x → WX mi d Q (pc + 3) L st M) : WX mi d Q pc L (.int y :: .int x :: st) M := by
  intro p l e R s m args below meth c cells slots Qr G C E H locs ls hR hL
  exact lv_icmp_gt C.1 C.2.1 (C.2.2.2.2.2.2.2.2.2.2 _ _ hf) ht (fun q => kt q p l e R s m args below meth c cells slots Qr G C E H locs ls hR hL) (fun q => kf q p l e R s m args below meth c cells slots Qr G C E H locs ls hR hL)
theorem WX.if_le {x : Int32} {off : Int} {tgt : Nat} (hf : mi.2.2.2.2.2 pc = some (.ifCond .le off, 3)) (ht : (pc : Int) + off = (tgt : Int)) (kt : x ≤ 0 → WX mi d Q tgt L st M) (kf : ¬ x ≤ 0 → WX mi d Q (pc + 3) L st M) : WX mi d Q pc L (.int x :: st) M := by
  intro p l e R s m args below meth c cells slots Qr G C E H locs ls hR hL
  exact lv_if_le C.1 C.2.1 (C.2.2.2.2.2.2.2.2.2.2 _ _ hf) ht (fun q => kt q p l e R s m args below meth c cells slots Qr G C E H locs ls hR hL) (fun q => kf q p l e R s m args below meth c cells slots Qr G C E H locs ls hR hL)
theorem WX.icmp_le {x y : Int32} {off : Int} {tgt : Nat} (hf : mi.2.2.2.2.2 pc = some (.if_icmp .le off, 3)) (ht : (pc : Int) + off = (tgt : Int)) (kt : x ≤ y → WX mi d Q tgt L st M) (kf : ¬ x ≤ y → WX mi d Q (pc + 3) L st M) : WX mi d Q pc L (.int y :: .int x :: st) M := by
  intro p l e R s m args below meth c cells slots Qr G C E H locs ls hR hL
  exact lv_icmp_le C.1 C.2.1 (C.2.2.2.2.2.2.2.2.2.2 _ _ hf) ht (fun q => kt q p l e R s m args below meth c cells slots Qr G C E H locs ls hR hL) (fun q => kf q p l e R s m args below meth c cells slots Qr G C E H locs ls hR hL)
theorem WX.tswIn {dflt lo hi : Int} {offs : Array Int} {len : Nat} {x : Int32} {off : Int} {tgt : Nat} (hf : mi.2.2.2.2.2 pc = some (.tableswitch dflt lo hi offs, len)) (h1 : ¬ x.toInt < lo) (h2 : ¬ hi < x.toInt) (ho : offs[(x.toInt - lo).toNat]? = some off) (ht : (pc : Int) + off = (tgt : Int)) (k : WX mi d Q tgt L st M) : WX mi d Q pc L (.int x :: st) M := by
  intro p l e R s m args below meth c cells slots Qr G C E H locs ls hR hL
  exact lv_tableIn C.1 C.2.1 (C.2.2.2.2.2.2.2.2.2.2 _ _ hf) h1 h2 ho ht (k p l e R s m args below meth c cells slots Qr G C E H locs ls hR hL)
theorem WX.tswOut {dflt lo hi : Int} {offs : Array Int} {len : Nat} {x : Int32} {tgt : Nat} (hf : mi.2.2.2.2.2 pc = some (.tableswitch dflt lo hi offs, len)) (h : x.toInt < lo ∨ hi < x.toInt) (ht : (pc : Int) + dflt = (tgt : Int)) (k : WX mi d Q tgt L st M) : WX mi d Q pc L (.int x :: st) M := by
  intro p l e R s m args below meth c cells slots Qr G C E H locs ls hR hL
  exact lv_tableOut C.1 C.2.1 (C.2.2.2.2.2.2.2.2.2.2 _ _ hf) h ht (k p l e R s m args below meth c cells slots Qr G C E H locs ls hR hL)
theorem WX.lsw {dflt : Int} {ps : Array (Int × Int)} {len : Nat} {x : Int32} {off : Int} {tgt : Nat} (hf : mi.2.2.2.2.2 pc = some (.lookupswitch dflt ps, len)) (hp : (ps.toList.zip (ps.toList.drop 1)).all (fun (a, next) => a.1 < next.1) = true) (ho : Op.lookupswitch.offset ps.toList dflt x.toInt = off) (ht : (pc : Int) + off = (tgt : Int)) (k : WX mi d Q tgt L st M) : WX mi d Q pc L (.int x :: st) M := by
  intro p l e R s m args below meth c cells slots Qr G C E H locs ls hR hL
  exact lv_lookup C.1 C.2.1 (C.2.2.2.2.2.2.2.2.2.2 _ _ hf) hp ho ht (k p l e R s m args below meth c cells slots Qr G C E H locs ls hR hL)
theorem WX.forget (h : WX mi d Q pc L' st M) (hn : L'.length = L.length) (hs : ∀ i v, gl L' i = some v → gl L i = some v) : WX mi d Q pc L st M := by
  intro p l e R s m args below meth c cells slots Qr G C E H locs ls hR hL
  refine h p l e R s m args below meth c cells slots Qr G C E H locs ls hR ⟨hn.trans hL.1, ⟨hL.2.1.1, hL.2.1.2.1, fun q hq => ?_⟩, fun i v hv => hL.2.2 i v (hs i v hv)⟩
  obtain ⟨v, h1, h2⟩ := al_mem.mp hq
  exact hL.2.1.2.2 q (al_mem.mpr ⟨v, hs _ _ h1, h2⟩)
end WXR
end
section
/-! ===== calls ===== -/
def Aof (ad : Nat → Nat) : Nat → Prop := fun q => ∃ k, k < nPl ∧ q = ad k
/-- the world at a call's start -/
def WP (G : Gx) (M : Mem) (U : State) : Prop := va_P G.1 vwCl (wl G M) U.heap ∧ va_D (Aof G.2.1) (wl G M) ∧ WF (G.1, G.2.1, G.2.2.1, Aof G.2.1) U ∧ WS (G.1, G.2.1, G.2.2.1, Aof G.2.1) M U
theorem nw_warm {s U : State} (hW : s.WarmedH U.vm) (h : ∀ w ∈ nwTbl, va_Nw w s) : ∀ w ∈ nwTbl, va_Nw w U := by
  intro w hw
  have h1 := h w hw
  have h2 := (List.mem_filter.mp hw).2
  cases w <;> first | (cases h2; done) | exact va_Nw.warmF hW h1 | exact va_Nw.warmM hW h1
theorem wl_A {G : Gx} {A' : Nat → Prop} {M : Mem} : wl (G.1, G.2.1, G.2.2.1, A') M = wl G M := rfl
theorem D_Aof {G : Gx} {A : Nat → Prop} {M : Mem} (h : va_D A (wl G M)) : va_D (Aof G.2.1) (wl G M) := by
  refine ⟨h.1, fun k q hk => ?_⟩
  by_cases hl : k < nPl
  · rw [wl_at G M hl] at hk
    cases hk
    exact ⟨k, hl, rfl⟩
  · rw [wl_no G M hl] at hk
    cases hk
theorem Aof_in {G : Gx} {A : Nat → Prop} {M : Mem} (h : va_D A (wl G M)) : ∀ q, Aof G.2.1 q → A q := by
  rintro q ⟨k, hk, rfl⟩
  exact h.2 k _ (wl_at G M hk)
theorem WP_of {G : Gx} {s U : State} {M : Mem} {H : Heap} {locs : List Loc} (hF : WF G s) (hR : Rp G s M H locs) (hU : U.heap = H) (hW : s.WarmedH U.vm) : WP G M U := by
  obtain ⟨hK, hN, hZ⟩ := hF
  obtain ⟨hP, hD, hS, N, hT, h1, h2⟩ := hR
  have hin := Aof_in hD
  have kp : ∀ a : Nat, a < s.heap.size → ¬ G.2.2.2 a → U.heap[a]? = s.heap[a]? := fun a x y => by rw [hU]; exact hS.2.1 a x y
  exact ⟨by rw [hU]; exact hP, D_Aof hD, ⟨va_K.moved hW.alike hK, nw_warm hW hN, fun j hj => ⟨((va_Z.moved hW.alike (hZ j hj).1).kept kp).narrow hin, ((va_T.moved hW.alike (hZ j hj).2).kept kp).narrow hin⟩⟩, N, ((va_T.moved hW.alike hT).kept kp).narrow hin, h1, h2⟩
theorem WP_blind {G : Gx} {M : Mem} {U : State} {g : JFrame} {mk : MethodId} {a : Array Value} (h : WP G M U) : WP G M (U.calling g mk a) := by
  obtain ⟨hP, hD, ⟨hK, hN, hZ⟩, N, hT, h1, h2⟩ := h
  exact ⟨hP, hD, ⟨va_K.moved (u := U) (U := U.calling g mk a) (Vm.Alike.refl U.vm) hK, fun w hw => by
      have h2 := (List.mem_filter.mp hw).2
      have h3 := hN w hw
      cases w <;> first | (cases h2; done) | exact va_Nw.same rfl rfl h3, fun j hj => ⟨va_Z.moved (u := U) (U := U.calling g mk a) (Vm.Alike.refl U.vm) (hZ j hj).1, va_T.moved (u := U) (U := U.calling g mk a) (Vm.Alike.refl U.vm) (hZ j hj).2⟩⟩, N, va_T.moved (u := U) (U := U.calling g mk a) (Vm.Alike.refl U.vm) hT, h1, h2⟩
theorem T_join {t N N' : Nat} {f f' : Nat → Value} {A A' : Nat → Prop} {s U : State} {H0 H : Heap} (h : va_T .int t N f A s H0) (h' : va_T .int t N' f' A' U H) (hk : H[t]? = H0[t]?) (hN : N < 2 ^ 31) (hN' : N' < 2 ^ 31) : N = N' ∧ ∀ j, j < N → f j = f' j := by
  obtain ⟨cell, a1, a2, a3, a4, a5, a6, a7⟩ := h
  obtain ⟨cell', b1, b2, b3, b4, b5, b6, b7⟩ := h'
  rw [hk, a1] at b1
  obtain rfl := Option.some.inj b1
  have e : N = N' := by
    have h1 : Int32.ofNat N = Int32.ofNat N' := a5.symm.trans b5
    have h2 := congrArg Int32.toNatClampNeg h1
    rwa [Int32.toNatClampNeg_ofNat_of_lt hN, Int32.toNatClampNeg_ofNat_of_lt hN'] at h2
  subst e
  refine ⟨rfl, fun j hj => ?_⟩
  have := (a6 j hj).symm.trans (b6 j hj)
  exact Option.some.inj this
theorem WS_join {G : Gx} {A' : Nat → Prop} {s U : State} {M M' : Mem} (h : WS G M s) (h' : WS (G.1, G.2.1, G.2.2.1, A') M' U) (hk : ∀ a : Nat, a < s.heap.size → ¬ G.2.2.2 a → U.heap[a]? = s.heap[a]?) : WS G M' s := by
  obtain ⟨N, hT, h1, h2⟩ := h
  obtain ⟨N', hT', h1', h2'⟩ := h'
  have hc := hT
  obtain ⟨cell, a1, a2, a3, a4, a5, a6, a7⟩ := hc
  obtain ⟨rfl, hf⟩ := T_join hT hT' (hk _ (Array.getElem?_eq_some_iff.mp a1).1 a7) h2 h2'
  exact ⟨N, ⟨cell, a1, a2, a3, a4, a5, fun j hj => (a6 j hj).trans (congrArg some (hf j hj)), a7⟩, h1', h2⟩
theorem lv_args_mem : ∀ (vs : List Value) (k i : Nat) (v : Value), (∀ w ∈ vs, w.category = 1) → vs[i]? = some v → (k + i, v) ∈ lv_args k vs
  | [], _, _, _, _, h => by simp at h
  | w :: vs, k, i, v, hc, h => by
    have hw : ¬ w.category = 2 := by rw [hc w List.mem_cons_self]; decide
    unfold lv_args
    rw [if_neg hw]
    cases i with
    | zero => cases h; exact List.mem_cons_self
    | succ i =>
      have := lv_args_mem vs (k + 1) i v (fun x hx => hc x (List.mem_cons_of_mem _ hx)) (by simpa using h)
      rw [show k + (i + 1) = k + 1 + i by omega]
      exact List.mem_cons_of_mem _ this
theorem lg_sl_len (vs : List Value) (hc : ∀ w ∈ vs, w.category = 1) : (lg_sl vs).length = vs.length := by
  induction vs with
  | nil => rfl
  | cons w vs ih =>
    have hw : ¬ w.category = 2 := by rw [hc w List.mem_cons_self]; decide
    have := ih (fun x hx => hc x (List.mem_cons_of_mem _ hx))
    simp only [lg_sl, List.flatMap_cons, if_neg hw, List.length_append, List.length_cons, List.length_nil] at this ⊢
    omega
/-- the locals at a method's start -/
def entL (nL : Nat) (vs : List Value) : List (Option Value) := vs.map some ++ List.replicate (nL - vs.length) none
theorem gl_ent {nL : Nat} {vs : List Value} {i : Nat} {v : Value} (h : gl (entL nL vs) i = some v) : vs[i]? = some v := by
  unfold gl entL at h
  rw [List.getD_eq_getElem?_getD] at h
  by_cases hi : i < vs.length
  · rw [List.getElem?_append_left (by simpa using hi), List.getElem?_map] at h
    cases hv : vs[i]? with
    | none => rw [hv] at h; cases h
    | some w => rw [hv] at h; exact h
  · rw [List.getElem?_append_right (by simpa using hi)] at h
    rw [List.getElem?_replicate] at h
    split at h <;> cases h
theorem LR_ent {ad : Nat → Nat} {nL : Nat} {vs : List Value} (hc : ∀ w ∈ vs, w.category = 1) (hn : vs.length ≤ nL) : LR ad nL (entL nL vs) ((lg_sl (vs.map (rl ad)) ++ List.replicate (nL - (lg_sl (vs.map (rl ad))).length) Slot.unset).toArray) := by
  have hc' : ∀ w ∈ vs.map (rl ad), w.category = 1 := by
    intro w hw
    obtain ⟨v, hv, rfl⟩ := List.mem_map.mp hw
    rw [rl_cat]
    exact hc v hv
  have h := lv_entry (vs.map (rl ad)) (n := nL) (by rw [lg_sl_len _ hc', List.length_map]; exact hn)
  refine ⟨by simp [entL]; omega, ⟨h.1, h.2.1, fun q hq => ?_⟩, fun i v hv => hc v (List.mem_of_getElem? (gl_ent hv))⟩
  obtain ⟨v, h1, h2⟩ := al_mem.mp hq
  have h3 : (vs.map (rl ad))[q.1]? = some q.2 := by rw [List.getElem?_map, gl_ent h1, h2]; rfl
  have h4 := lv_args_mem _ 0 _ _ hc' h3
  rw [Nat.zero_add] at h4
  exact h.2.2 q h4
/-- what the tables say of a method: it can be called -/
def CallOk (mi : Mi) (n : Nat) : Prop := Cond.code mi.2.2.2.2.1 mi.2.1 mi.2.2.1 mi.2.2.2.1 ∈ gTbl ∧ Cond.initialized mi.2.2.2.2.1.cls ∈ gTbl ∧ mi.2.2.2.2.1.cls = RXn mi.1 ∧ plainName mi.2.2.2.2.1.cls = true ∧
  (mi.2.2.2.2.1.cls ≠ "java/lang/invoke/MethodHandle" ∧ mi.2.2.2.2.1.cls ≠ "java/lang/invoke/VarHandle" ∧ (parseMethodDescriptor mi.2.2.2.2.1.desc).map (fun d => d.parameters.length) = some n) ∧ mi.2.2.1 ≤ 45 ∧ FOK mi.2.2.2.2.2 mi.2.1
def CallV (mi : Mi) : Prop := Cond.instanceMethod mi.2.2.2.2.1 ∈ gTbl ∧ Cond.selects mi.2.2.2.2.1.cls mi.2.2.2.2.1 mi.2.2.2.2.1 ∈ gTbl
def CallS (mi : Mi) : Prop := Cond.static mi.2.2.2.2.1 ∈ gTbl
def Lnk (o idx : Nat) (y : MethodName) : Prop := Cond.methodLink (RXn o) idx y ∈ gTbl
def LnkN (o idx : Nat) (y : MethodName) (host : String) : Prop := Cond.methodLinkNest (RXn o) idx y host ∈ lw_tbl
abbrev wsOf (mi : Mi) : List Cond := Cond.code mi.2.2.2.2.1 mi.2.1 mi.2.2.1 mi.2.2.2.1 :: gTbl
abbrev rmOf (d : Nat) : Room := { frames := d, cells := 0, slots := 0, locals := 64 * d }
def QcOf (G : Gx) (Q : Option Value → Mem → Prop) : Array Value → State → Outcome → State → Prop := fun _ st o t =>
  ∃ (rv : Option Value) (M' : Mem), o = .returned (rv.map (rl G.2.1)) ∧ Q rv M' ∧ va_P G.1 vwCl (wl G M') t.heap ∧ WS (G.1, G.2.1, G.2.2.1, Aof G.2.1) M' st ∧ va_F (Aof G.2.1) st t
theorem good_g {ws : List Cond} (h : ∀ w ∈ ws, w ∈ gTbl) : GoodIn gTbl ws := fun w hw => ⟨h w hw, good_of_word (List.mem_filter.mp (h w hw)).2⟩
theorem goodws {mi : Mi} {n : Nat} (h : CallOk mi n) : GoodIn gTbl (wsOf mi) := good_g fun w hw => by
  rcases List.mem_cons.mp hw with e | e
  · rw [e]; exact h.1
  · exact e
theorem lnkn_nw {o idx : Nat} {y : MethodName} {host : String} (h : LnkN o idx y host) : (Cond.methodLinkNest (RXn o) idx y host) ∈ nwTbl := List.mem_filter.mpr ⟨h, rfl⟩
/-- a contract out of the judgement -/
theorem met_of_WX {l : Launch} {mi : Mi} {n d : Nat} {G : Gx} {Q : Option Value → Mem → Prop} {vs : List Value} {M : Mem} (hC : CallOk mi n) (hc : ∀ w ∈ vs, w.category = 1) (hn : vs.length ≤ mi.2.2.1) (hW : WX mi d Q 0 (entL mi.2.2.1 vs) [] M) :
    Met l mi.2.2.2.2.1 (wsOf mi) (rmOf d) (va_Pc (vs.map (rl G.2.1)) (WP G M)) (QcOf G Q) 0 0 (Aof G.2.1) := by
  refine Met.ofW (cc := mi.2.1) (maxL := mi.2.2.1) (ret := mi.2.2.2.1) hC.2.2.2.1 rfl ?_
  intro p e s m args below meth c s₁ B hml hv
  obtain ⟨rfl, hP, hD, hF, hS⟩ := hv
  have hts := atoms_spec (ws := wsOf mi) B.pre
  have hown : s.vm.findClass (RXn mi.1) = some m.cls := by rw [← hC.2.2.1]; exact findClass_of_methodNamed B.named
  have hlocks := B.notSynchronized
  have hx := B.exec
  have hb := B.bytes
  have hr := B.returns
  rw [lg_entry_eq]
  have C : CX (G.1, G.2.1, G.2.2.1, Aof G.2.1) mi d p (headSpec (wsOf mi) (rmOf d)).room s m ((vs.map (rl G.2.1)).toArray) c 0 0 :=
    ⟨hx, hb, hml, hown, fun w hw => hts w (List.mem_cons_of_mem _ hw), Nat.le_refl d, Nat.le_refl _, Nat.le_refl _, Nat.le_refl _, hF, hC.2.2.2.2.2.2⟩
  refine hW p l e _ s m _ below meth c 0 0 _ (G.1, G.2.1, G.2.2.1, Aof G.2.1) C ?_ s.heap [] _ ⟨hP, hD, va_S.rf, hS⟩ (LR_ent hc hn)
  intro pc' L' st' M' ins rv hf hret hq H locs ls hR hL
  have hq' : ∀ t : State, t.heap = H → QcOf G Q ((vs.map (rl G.2.1)).toArray) s (.returned (rv.map (rl G.2.1))) t := fun t ht => ⟨rv, M', rfl, hq, by rw [ht]; exact hR.1, hR.2.2.2, hR.2.2.1.F ht⟩
  have hdg := hC.2.2.2.2.2.2 _ _ hf
  rcases hret with ⟨rfl, h1, rfl, rfl⟩ | ⟨v, ty, rfl, h1, rfl, rfl, h2⟩ | ⟨v, rfl, h1, rfl, rfl⟩ | ⟨q, K, rfl, h1, rfl, rfl⟩
  · exact W.vret hx hb (hr.trans h1) (fun t ht _ => hq' t ht) hR.2.2.1.2.2 hdg hlocks
  · exact W.zret hx hb (hr.trans h1) h2 (fun t ht _ => hq' t ht) hR.2.2.1.2.2 hdg hlocks
  · exact W.lret hx hb (hr.trans h1) (fun t ht _ => hq' t ht) hR.2.2.1.2.2 hdg hlocks
  · exact W.aret hx hb (hr.trans h1) (Or.inl ⟨K, rfl⟩) (Or.inr ⟨_, rfl⟩) (fun t ht _ => hq' t ht) hR.2.2.1.2.2 hdg hlocks
section CLL
variable {p : Program} {l : Launch} {e : Env} {R : Room} {s : State} {m : MethodId} {args : Array Value} {below : List Frame} {meth : Method} {c : Code} {cells slots : Nat} {Qr : State → Prop} {G : Gx}
variable {nL : Nat} {H : Heap} {locs : List Loc} {pc : Nat} {ls : Array Slot} {L : List (Option Value)} {st : List Value} {M : Mem}
theorem call_on {Q : Option Value → Mem → Prop} {a : Array Value} {st0 : List Value} (hr : va_Run p l e R s m args below meth c H locs cells slots 0 0 (F0 m pc ls st0) (st.map (rl G.2.1)) (QcOf G Q a) (Aof G.2.1)) (hR : Rp G s M H locs) (hL : LR G.2.1 nL L ls)
    (kk : ∀ (rv : Option Value) (M' : Mem), Q rv M' → Wt p l e R s m args below meth c cells slots Qr G nL (pc + 3) L (rv.toList ++ st) M') : W p l e R s m args below meth c H locs cells slots Qr (F0 m pc ls st0) := by
  intro T hT X
  obtain ⟨v, st₀, t, T', Lo, h0, X', hLo, e1, e2, ⟨rv, M', hv, hq, hP, hS', hz, hk⟩, go⟩ := hr T hT X
  cases hv
  rw [h0] at hz hk
  have hin := Aof_in hR.2.1
  have hS1 : va_S G.2.2.2 s.heap T'.heap (locs ++ Lo) := by
    refine ⟨Nat.le_trans hR.2.2.1.1 (by rw [e1]; exact hz), fun q h1 h2 => ?_, fun q hq => ?_⟩
    · rw [e1, hk q (Nat.lt_of_lt_of_le h1 hR.2.2.1.1) (fun z => h2 (hin q z))]
      exact hR.2.2.1.2.1 q h1 h2
    · rcases List.mem_append.mp hq with h | h
      · exact hR.2.2.1.2.2 q h
      · exact hin _ (hLo q h)
  have hD' : va_D G.2.2.2 (wl G M') := by
    refine ⟨fun i j x y hi hj hxy => ?_, fun k q hk => ?_⟩
    · by_cases h1 : i < nPl
      · by_cases h2 : j < nPl
        · rw [wl_at G M' h1] at hi
          rw [wl_at G M' h2] at hj
          cases hi
          cases hj
          exact hR.2.1.1 i j _ _ (wl_at G M h1) (wl_at G M h2) hxy
        · rw [wl_no G M' h2] at hj
          cases hj
      · rw [wl_no G M' h1] at hi
        cases hi
    · by_cases h1 : k < nPl
      · rw [wl_at G M' h1] at hk
        cases hk
        exact hR.2.1.2 k (G.2.1 k, cellE G M k (layF k)) (wl_at G M h1)
      · rw [wl_no G M' h1] at hk
        cases hk
  have hws : WS G M' s := WS_join hR.2.2.2 hS' (fun q h1 h2 => by rw [h0]; exact hR.2.2.1.2.1 q h1 h2)
  have hm : (rv.toList ++ st).map (rl G.2.1) = (rv.map (rl G.2.1)).toList ++ st.map (rl G.2.1) := by cases rv <;> rfl
  have h3 := kk rv M' hq T'.heap (locs ++ Lo) ls ⟨by rw [e1]; exact hP, hD', hS1, hws⟩ hL
  rw [hm] at h3
  obtain ⟨t2, a1, b1⟩ := h3 T' rfl X'
  exact ⟨t2, go t2 a1, b1⟩
end CLL
theorem rl_ref (ad : Nat → Nat) (q : Nat) : rl ad (.ref q) = .ref (ad q) := rfl
section WXC
variable {mi ca : Mi} {d d' n idx : Nat} {Q : Option Value → Mem → Prop} {pc : Nat} {L : List (Option Value)} {st stk : List Value} {M : Mem} {As : List Value} {q : Nat}
theorem cat_sum {st : List Value} (ad : Nat → Nat) : ((st.map (rl ad)).map fun v => v.category).sum = (st.map fun v => v.category).sum := by
  rw [List.map_map]
  congr 2
  funext v
  exact rl_cat ad v
theorem WX.callV (hf : mi.2.2.2.2.2 pc = some (.invokevirtual idx, 3)) (hl : Lnk mi.1 idx ca.2.2.2.2.1) (hC : CallOk ca n) (hV : CallV ca) (hn : As.length = n) (hd : d' < d)
    (hs : stk = As.reverse ++ .ref q :: st) (hrm : (st.map fun v => v.category).sum ≤ 8) (hq : q < nPl ∧ (layF q).1 = ca.1 ∧ ca.1 < 7) (hc : ∀ w ∈ As, w.category = 1) (hm : As.length + 1 ≤ ca.2.2.1)
    (hW : WX ca d' (fun rv M' => WX mi d Q (pc + 3) L (rv.toList ++ st) M') 0 (entL ca.2.2.1 (.ref q :: As)) [] M) : WX mi d Q pc L stk M := by
  intro p l e R s m args below meth c cells slots Qr G C E H locs ls hR hL
  subst hs
  have hM := met_of_WX (l := l) (G := G) hC (vs := .ref q :: As) (fun w hw => by
    rcases List.mem_cons.mp hw with e | e
    · rw [e]; rfl
    · exact hc w e) hm hW
  obtain ⟨hx, hb, hml, hown, hts, hdf, hdl, hcl, hsl, hF, hfo⟩ := id C
  have hmap : (As.reverse ++ .ref q :: st).map (rl G.2.1) = (As.map (rl G.2.1)).reverse ++ .ref (G.2.1 q) :: st.map (rl G.2.1) := by simp [rl]
  rw [hmap]
  have cw : CallW R s args (RXn mi.1) (RXn ca.1) idx ca.2.2.2.2.1 ca.2.1 ca.2.2.1 ca.2.2.2.1 (wsOf ca) (rmOf d') 0 0 n :=
    ⟨callB_of n hts (goodws hC) rfl rfl rfl (hts _ hC.2.1) (hts _ hl) hC.2.2.2.2.1 ⟨by show d' + 1 ≤ _; omega, by show 8 + (_ + 11) + 64 * d' ≤ _; have := hC.2.2.2.2.2.1; omega⟩, hts _ hV.1, by rw [← hC.2.2.1]; exact hts _ hV.2⟩
  have hcell := va_recv (cl := vwCl) hF.1 hR.1 (vwCl_at ca.1 hq.2.2) (q0 := q) (a := G.2.1 q) (ci := ca.1) (fs := (layF q).2.2.mapIdx (fun k c => rl G.2.1 (fvA M q k c))) (by rw [wl_at G M hq.1, cellE_obj hq.2.1 hq.2.2])
  refine call_on (va_runV (As := As.map (rl G.2.1)) (rest := st.map (rl G.2.1)) (b := G.2.1 q) (C := RXn ca.1) (Ts := gTbl) (own := RXn mi.1) (n := n) ⟨hx, hb, hml, hown, hts⟩ hM cw ⟨?_, hcell, ?_⟩ rfl (by rw [List.length_map]; exact hn) hL.2.1.1 rfl (lv_room (by rw [cat_sum]; exact hrm)) (hfo _ _ hf) ⟨hcl, hsl⟩) hR hL (fun rv M' hq' => ?_)
  · rintro a U g mk ⟨h1, h2⟩
    exact ⟨h1, WP_blind h2⟩
  · intro U hU hWm
    exact ⟨rfl, WP_of hF hR hU hWm⟩
  · exact hq' p l e R s m args below meth c cells slots Qr G C E
theorem WX.callS (hf : mi.2.2.2.2.2 pc = some (.invokestatic idx, 3)) (hl : Lnk mi.1 idx ca.2.2.2.2.1) (hC : CallOk ca n) (hV : CallS ca) (hn : As.length = n) (hd : d' < d)
    (hs : stk = As.reverse ++ st) (hrm : (st.map fun v => v.category).sum ≤ 8) (hc : ∀ w ∈ As, w.category = 1) (hm : As.length ≤ ca.2.2.1)
    (hW : WX ca d' (fun rv M' => WX mi d Q (pc + 3) L (rv.toList ++ st) M') 0 (entL ca.2.2.1 As) [] M) : WX mi d Q pc L stk M := by
  intro p l e R s m args below meth c cells slots Qr G C E H locs ls hR hL
  subst hs
  have hM := met_of_WX (l := l) (G := G) hC (vs := As) hc hm hW
  obtain ⟨hx, hb, hml, hown, hts, hdf, hdl, hcl, hsl, hF, hfo⟩ := id C
  have hmap : (As.reverse ++ st).map (rl G.2.1) = (As.map (rl G.2.1)).reverse ++ st.map (rl G.2.1) := by simp
  rw [hmap]
  have cw : CallB R s args (RXn mi.1) idx ca.2.2.2.2.1 ca.2.1 ca.2.2.1 ca.2.2.2.1 (wsOf ca) (rmOf d') 0 0 n :=
    callB_of n hts (goodws hC) rfl rfl rfl (hts _ hC.2.1) (hts _ hl) hC.2.2.2.2.1 ⟨by show d' + 1 ≤ _; omega, by show 8 + (_ + 11) + 64 * d' ≤ _; have := hC.2.2.2.2.2.1; omega⟩
  refine call_on (va_runS (As := As.map (rl G.2.1)) (rest := st.map (rl G.2.1)) (Ts := gTbl) (own := RXn mi.1) (n := n) ⟨hx, hb, hml, hown, hts⟩ hM ⟨cw, hts _ hV⟩ ⟨?_, ?_⟩ rfl (by rw [List.length_map]; exact hn) hL.2.1.1 rfl (lv_room (by rw [cat_sum]; exact hrm)) (hfo _ _ hf) ⟨hcl, hsl⟩) hR hL (fun rv M' hq' => ?_)
  · rintro a U g mk ⟨h1, h2⟩
    exact ⟨h1, WP_blind h2⟩
  · intro U hU hWm
    exact ⟨rfl, WP_of hF hR hU hWm⟩
  · exact hq' p l e R s m args below meth c cells slots Qr G C E
theorem WX.callSN {host : String} (hf : mi.2.2.2.2.2 pc = some (.invokestatic idx, 3)) (hl : LnkN mi.1 idx ca.2.2.2.2.1 host) (hC : CallOk ca n) (hV : CallS ca) (hn : As.length = n) (hd : d' < d)
    (hs : stk = As.reverse ++ st) (hrm : (st.map fun v => v.category).sum ≤ 8) (hc : ∀ w ∈ As, w.category = 1) (hm : As.length ≤ ca.2.2.1)
    (hW : WX ca d' (fun rv M' => WX mi d Q (pc + 3) L (rv.toList ++ st) M') 0 (entL ca.2.2.1 As) [] M) : WX mi d Q pc L stk M := by
  intro p l e R s m args below meth c cells slots Qr G C E H locs ls hR hL
  subst hs
  have hM := met_of_WX (l := l) (G := G) hC (vs := As) hc hm hW
  obtain ⟨hx, hb, hml, hown, hts, hdf, hdl, hcl, hsl, hF, hfo⟩ := id C
  have hmap : (As.reverse ++ st).map (rl G.2.1) = (As.map (rl G.2.1)).reverse ++ st.map (rl G.2.1) := by simp
  rw [hmap]
  have cw : va_CN R s args (RXn mi.1) idx ca.2.2.2.2.1 host ca.2.1 ca.2.2.1 ca.2.2.2.1 (wsOf ca) (rmOf d') 0 0 n :=
    va_cnB n hts (goodws hC) rfl rfl rfl (hF.2.1 _ (lnkn_nw hl)) (hts _ hC.2.1) hC.2.2.2.2.1 ⟨by show d' + 1 ≤ _; omega, by show 8 + (_ + 11) + 64 * d' ≤ _; have := hC.2.2.2.2.2.1; omega⟩
  refine call_on (va_runSN (As := As.map (rl G.2.1)) (rest := st.map (rl G.2.1)) (Ts := gTbl) (own := RXn mi.1) (n := n) ⟨hx, hb, hml, hown, hts⟩ hM ⟨cw, hts _ hV, trivial⟩ ⟨?_, ?_⟩ rfl (by rw [List.length_map]; exact hn) hL.2.1.1 rfl (lv_room (by rw [cat_sum]; exact hrm)) (hfo _ _ hf) ⟨hcl, hsl⟩) hR hL (fun rv M' hq' => ?_)
  · rintro a U g mk ⟨h1, h2⟩
    exact ⟨h1, WP_blind h2⟩
  · intro U hU hWm
    exact ⟨rfl, WP_of hF hR hU hWm⟩
  · exact hq' p l e R s m args below meth c cells slots Qr G C E
end WXC
end
section
/-! ===== the two yards changed about: what holds of one, holds of the other ===== -/
/-- the first yard's places 0 .. 36, the second's 37 .. 73 -/
def sg (q : Nat) : Nat := if q < 37 then q + 37 else if q < 74 then q - 37 else q
theorem sg_sg (q : Nat) : sg (sg q) = q := by
  unfold sg
  by_cases h : q < 37
  · rw [if_pos h, if_neg (by omega), if_pos (by omega)]; omega
  · by_cases h2 : q < 74
    · rw [if_neg h, if_pos h2, if_pos (by omega)]; omega
    · rw [if_neg h, if_neg h2, if_neg h, if_neg h2]
theorem sg_lt {q : Nat} (h : q < nPl) : sg q < nPl := by
  have h' : q < 74 := h
  show sg q < 74
  unfold sg
  by_cases h : q < 37
  · rw [if_pos h]; omega
  · rw [if_neg h, if_pos h']; omega
theorem sg_far {q : Nat} (h : 74 ≤ q) : sg q = q := by
  unfold sg
  rw [if_neg (by omega), if_neg (by omega)]
def swp (M : Mem) : Mem := (fun q => M.1 (sg q), fun q => M.2 (sg q))
theorem swp_swp (M : Mem) : swp (swp M) = M := by
  unfold swp
  simp only [sg_sg]
def sgV (v : Value) : Value := rl sg v
theorem sgV_sgV (v : Value) : sgV (sgV v) = v := by
  cases v <;> try rfl
  show Value.ref (sg (sg _)) = _
  rw [sg_sg]
def Gs (G : Gx) : Gx := (G.1, fun q => G.2.1 (sg q), G.2.2.1, G.2.2.2)
theorem Gs_Gs (G : Gx) : Gs (Gs G) = G := by
  unfold Gs
  simp only [sg_sg]
theorem rl_sg (G : Gx) (v : Value) : rl G.2.1 (sgV v) = rl (Gs G).2.1 v := by cases v <;> rfl
theorem rl_sgs (G : Gx) : (fun v => rl G.2.1 (sgV v)) = rl (Gs G).2.1 := funext (rl_sg G)
/-- a field's code for the other yard -/
def sgC (c : Nat) : Nat := match c with
  | 0 => 0
  | 1 => 1
  | q + 2 => sg q + 2
theorem lay_sg : ∀ p, p < 74 → layF (sg p) = ((layF p).1, (layF p).2.1, (layF p).2.2.map sgC) := by decide +kernel
theorem fv_sg (G : Gx) (M : Mem) (p k c : Nat) : rl (Gs G).2.1 (fvA M p k c) = rl G.2.1 (fvA (swp M) (sg p) k (sgC c)) := by
  match c with
  | 0 => show Value.int (M.1 p k) = Value.int (M.1 (sg (sg p)) k); rw [sg_sg]
  | 1 => show Value.long (M.2 p) = Value.long (M.2 (sg (sg p))); rw [sg_sg]
  | q + 2 => rfl
theorem cell_sg (G : Gx) (M : Mem) {p : Nat} (h : p < 74) : cellE (Gs G) M p (layF p) = cellE G (swp M) (sg p) (layF (sg p)) := by
  rw [lay_sg p h]
  unfold cellE
  dsimp only
  by_cases hc : (layF p).1 < 7
  · rw [if_pos hc, if_pos hc]
    congr 2
    apply List.ext_getElem?
    intro i
    rw [List.getElem?_mapIdx, List.getElem?_mapIdx, List.getElem?_map]
    cases (layF p).2.2[i]? with
    | none => rfl
    | some c => exact congrArg some (fv_sg G M p i c)
  · rw [if_neg hc, if_neg hc]
    show Sum.inl ((Gs G).2.2.1 (layF p).1, (layF p).2.1, Sum.inl (M.1 p)) = Sum.inl (G.2.2.1 (layF p).1, (layF p).2.1, Sum.inl (M.1 (sg (sg p))))
    rw [sg_sg]
    rfl
theorem wl_sg (G : Gx) (M : Mem) (k : Nat) (h : k < 74) : (wl (Gs G) M)[k]? = (wl G (swp M))[sg k]? := by
  rw [wl_at (Gs G) M (show k < nPl from h), wl_at G (swp M) (sg_lt h), cell_sg G M h]
  rfl
theorem Rp_sg {G : Gx} {s : State} {M : Mem} {H : Heap} {locs : List Loc} (h : Rp G s (swp M) H locs) : Rp (Gs G) s M H locs := by
  obtain ⟨hP, hD, hS, hW⟩ := h
  refine ⟨fun k q hk => ?_, ⟨fun i j p q hi hj e => ?_, fun k q hk => ?_⟩, hS, ?_⟩
  · by_cases hl : k < 74
    · rw [wl_sg G M k hl] at hk
      exact hP (sg k) q hk
    · rw [wl_no (Gs G) M hl] at hk
      cases hk
  · by_cases hl : i < 74
    · by_cases hl2 : j < 74
      · rw [wl_sg G M i hl] at hi
        rw [wl_sg G M j hl2] at hj
        have := hD.1 (sg i) (sg j) p q hi hj e
        have := congrArg sg this
        rwa [sg_sg, sg_sg] at this
      · rw [wl_no (Gs G) M hl2] at hj
        cases hj
    · rw [wl_no (Gs G) M hl] at hi
      cases hi
  · by_cases hl : k < 74
    · rw [wl_sg G M k hl] at hk
      exact hD.2 (sg k) q hk
    · rw [wl_no (Gs G) M hl] at hk
      cases hk
  · obtain ⟨N, a, b, c⟩ := hW
    have e1 : (swp M).1 104 = M.1 104 := congrArg M.1 (sg_far (by decide))
    have e2 : (swp M).1 105 = M.1 105 := congrArg M.1 (sg_far (by decide))
    rw [e1] at a
    rw [e2] at b
    refine ⟨N, ?_, b, c⟩
    show va_T .int (G.2.1 (sg 104)) N _ G.2.2.2 s s.heap
    rw [sg_far (by decide)]
    exact a
theorem gl_sg (L : List (Option Value)) (i : Nat) : gl (L.map (Option.map sgV)) i = (gl L i).map sgV := by
  unfold gl
  rw [List.getD_eq_getElem?_getD, List.getD_eq_getElem?_getD, List.getElem?_map]
  cases L[i]? <;> rfl
theorem al_sg (G : Gx) (L : List (Option Value)) : al G.2.1 (L.map (Option.map sgV)) = al (Gs G).2.1 L := by
  unfold al
  rw [List.length_map]
  refine congrArg (fun f => List.filterMap f (List.range L.length)) (funext fun i => ?_)
  rw [gl_sg]
  cases gl L i with
  | none => rfl
  | some v => exact congrArg (fun x => some (i, x)) (rl_sg G v)
theorem sgV_cat (v : Value) : (sgV v).category = v.category := rl_cat sg v
theorem LR_sg {G : Gx} {nL : Nat} {L : List (Option Value)} {ls : Array Slot} : LR G.2.1 nL (L.map (Option.map sgV)) ls ↔ LR (Gs G).2.1 nL L ls := by
  unfold LR
  rw [List.length_map, al_sg]
  refine and_congr_right fun _ => and_congr_right fun _ => ⟨fun h i v hv => ?_, fun h i v hv => ?_⟩
  · rw [← sgV_cat]
    exact h i (sgV v) (by rw [gl_sg, hv]; rfl)
  · rw [gl_sg] at hv
    cases hg : gl L i with
    | none => rw [hg] at hv; cases hv
    | some w =>
      rw [hg] at hv
      cases hv
      rw [sgV_cat]
      exact h i w hg
theorem st_sg (G : Gx) (st : List Value) : (st.map sgV).map (rl G.2.1) = st.map (rl (Gs G).2.1) := by
  rw [List.map_map]
  exact congrArg (fun f => List.map f st) (rl_sgs G)
section SWP
variable {p : Program} {l : Launch} {e : Env} {R : Room} {s : State} {m : MethodId} {args : Array Value} {below : List Frame} {meth : Method} {c : Code} {cells slots : Nat} {Qr : State → Prop} {G : Gx}
variable {mi : Mi} {d nL : Nat} {pc : Nat} {L : List (Option Value)} {st : List Value} {M : Mem}
theorem Wt_sg (h : Wt p l e R s m args below meth c cells slots Qr (Gs G) nL pc L st M) : Wt p l e R s m args below meth c cells slots Qr G nL pc (L.map (Option.map sgV)) (st.map sgV) (swp M) := by
  intro H locs ls hR hL
  rw [st_sg]
  exact h H locs ls (Rp_sg hR) (LR_sg.mp hL)
theorem WF_sg (h : WF G s) : WF (Gs G) s := by
  obtain ⟨a, b, c⟩ := h
  refine ⟨a, b, fun j hj => ?_⟩
  show va_Z "SlabYard" (stN j) "[I" (.ref (G.2.1 (sg (100 + j)))) _ _ _ ∧ va_T .int (G.2.1 (sg (100 + j))) 4 _ _ _ _
  rw [sg_far (by omega)]
  exact c j hj
theorem CX_sg (h : CX G mi d p R s m args c cells slots) : CX (Gs G) mi d p R s m args c cells slots := by
  obtain ⟨h1, h2, h3, h4, h5, h6, h7, h8, h9, h10, h11⟩ := h
  exact ⟨h1, h2, h3, h4, h5, h6, h7, h8, h9, WF_sg h10, h11⟩
theorem mapV_mapV (st : List Value) : (st.map sgV).map sgV = st := by
  rw [List.map_map, show sgV ∘ sgV = id from funext sgV_sgV, List.map_id]
theorem mapO_mapO (L : List (Option Value)) : (L.map (Option.map sgV)).map (Option.map sgV) = L := by
  rw [List.map_map, show Option.map sgV ∘ Option.map sgV = id from funext fun o => by cases o <;> simp [sgV_sgV], List.map_id]
theorem RetOk_sg {ret : Option FieldType} {ins : Instr} {rv : Option Value} (h : RetOk ret ins st rv) : RetOk ret ins (st.map sgV) (rv.map sgV) := by
  rcases h with ⟨h1, h2, rfl, rfl⟩ | ⟨v, ty, h1, h2, rfl, rfl, h3⟩ | ⟨v, h1, h2, rfl, rfl⟩ | ⟨q, C, h1, h2, rfl, rfl⟩
  · exact Or.inl ⟨h1, h2, rfl, rfl⟩
  · exact Or.inr (Or.inl ⟨v, ty, h1, h2, rfl, rfl, h3⟩)
  · exact Or.inr (Or.inr (Or.inl ⟨v, h1, h2, rfl, rfl⟩))
  · exact Or.inr (Or.inr (Or.inr ⟨sg q, C, h1, h2, rfl, rfl⟩))
/-- what the method does to one yard, it does to the other -/
theorem WX.swap {Q : Option Value → Mem → Prop} (h : WX mi d (fun rv M1 => Q (rv.map sgV) (swp M1)) pc L st M) : WX mi d Q pc (L.map (Option.map sgV)) (st.map sgV) (swp M) := by
  intro p l e R s m args below meth c cells slots Qr G hC hE
  refine Wt_sg (h p l e R s m args below meth c cells slots Qr (Gs G) (CX_sg hC) (fun pc' L' st' M' ins rv h1 h2 h3 => ?_))
  have k := Wt_sg (G := Gs G) (L := L'.map (Option.map sgV)) (st := st'.map sgV) (M := swp M') (by rw [Gs_Gs]; exact hE pc' _ _ _ ins _ h1 (RetOk_sg h2) h3)
  rw [mapO_mapO, mapV_mapV, swp_swp] at k
  exact k
end SWP
end
