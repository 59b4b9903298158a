-- ===== PART A: goes FIRST, ahead of the names: the tables' words, and 'selects' of the private methods out of them =====
/-- a private method of a class that the tables say can be made, by its rows of tables_1 -/
def lw_okq (q : MethodName × Nat) : Prop := (q.1.cls ≠ "java/lang/invoke/MethodHandle" ∧ q.1.cls ≠ "java/lang/invoke/VarHandle") ∧ Cond.instantiable q.1.cls q.2 ∈ tables_1 ∧ Cond.privateMethod q.1 ∈ tables_1 ∧ Cond.instanceMethod q.1 ∈ tables_1
theorem lw_p0 : lw_okq (⟨"SlabYard", "freeCells", "()I"⟩, 12) := ⟨⟨by decide +kernel, by decide +kernel⟩, List.mem_of_getElem? (i := 11) (by decide +kernel), List.mem_of_getElem? (i := 299) (by decide +kernel), List.mem_of_getElem? (i := 300) (by decide +kernel)⟩
theorem lw_p1 : lw_okq (⟨"SlabYard", "markCell", "(I)I"⟩, 12) := ⟨⟨by decide +kernel, by decide +kernel⟩, List.mem_of_getElem? (i := 11) (by decide +kernel), List.mem_of_getElem? (i := 574) (by decide +kernel), List.mem_of_getElem? (i := 575) (by decide +kernel)⟩
theorem lw_p2 : lw_okq (⟨"SlabYard", "markTrue", "(I)I"⟩, 12) := ⟨⟨by decide +kernel, by decide +kernel⟩, List.mem_of_getElem? (i := 11) (by decide +kernel), List.mem_of_getElem? (i := 578) (by decide +kernel), List.mem_of_getElem? (i := 579) (by decide +kernel)⟩
theorem lw_p3 : lw_okq (⟨"SlabYard", "markLow", "(I)I"⟩, 12) := ⟨⟨by decide +kernel, by decide +kernel⟩, List.mem_of_getElem? (i := 11) (by decide +kernel), List.mem_of_getElem? (i := 583) (by decide +kernel), List.mem_of_getElem? (i := 584) (by decide +kernel)⟩
theorem lw_p4 : lw_okq (⟨"SlabYard", "markRocking", "(I)I"⟩, 12) := ⟨⟨by decide +kernel, by decide +kernel⟩, List.mem_of_getElem? (i := 11) (by decide +kernel), List.mem_of_getElem? (i := 588) (by decide +kernel), List.mem_of_getElem? (i := 589) (by decide +kernel)⟩
theorem lw_p5 : lw_okq (⟨"SlabYard", "markCut", "(I)I"⟩, 12) := ⟨⟨by decide +kernel, by decide +kernel⟩, List.mem_of_getElem? (i := 11) (by decide +kernel), List.mem_of_getElem? (i := 593) (by decide +kernel), List.mem_of_getElem? (i := 594) (by decide +kernel)⟩
theorem lw_p6 : lw_okq (⟨"SlabYard", "markWet", "(I)I"⟩, 12) := ⟨⟨by decide +kernel, by decide +kernel⟩, List.mem_of_getElem? (i := 11) (by decide +kernel), List.mem_of_getElem? (i := 598) (by decide +kernel), List.mem_of_getElem? (i := 599) (by decide +kernel)⟩
theorem lw_p7 : lw_okq (⟨"SlabYard", "imageOf", "(I)LSlabYard$Ground;"⟩, 12) := ⟨⟨by decide +kernel, by decide +kernel⟩, List.mem_of_getElem? (i := 11) (by decide +kernel), List.mem_of_getElem? (i := 608) (by decide +kernel), List.mem_of_getElem? (i := 609) (by decide +kernel)⟩
def lw_privs_1 : List (MethodName × Nat) := [(⟨"SlabYard", "freeCells", "()I"⟩, 12), (⟨"SlabYard", "markCell", "(I)I"⟩, 12), (⟨"SlabYard", "markTrue", "(I)I"⟩, 12), (⟨"SlabYard", "markLow", "(I)I"⟩, 12), (⟨"SlabYard", "markRocking", "(I)I"⟩, 12), (⟨"SlabYard", "markCut", "(I)I"⟩, 12), (⟨"SlabYard", "markWet", "(I)I"⟩, 12), (⟨"SlabYard", "imageOf", "(I)LSlabYard$Ground;"⟩, 12)]
theorem lw_r1 : ∀ q ∈ lw_privs_1, lw_okq q := List.forall_mem_cons.mpr ⟨lw_p0, List.forall_mem_cons.mpr ⟨lw_p1, List.forall_mem_cons.mpr ⟨lw_p2, List.forall_mem_cons.mpr ⟨lw_p3, List.forall_mem_cons.mpr ⟨lw_p4, List.forall_mem_cons.mpr ⟨lw_p5, List.forall_mem_cons.mpr ⟨lw_p6, List.forall_mem_cons.mpr ⟨lw_p7, fun _ h => absurd h List.not_mem_nil⟩⟩⟩⟩⟩⟩⟩⟩
def lw_privs : List (MethodName × Nat) := lw_privs_1
def lw_tbl : List Cond := k2_sels lw_privs ++ tables_1
theorem lw_privs_ok : ∀ q ∈ lw_privs, lw_okq q := lw_r1

def RX0 : String := "SlabYard$Ground"
def TX0 : u_T := fun k => match k with
  | 0 => ("SlabYard$Ground", "heights", "[I", true)
  | 1 => ("SlabYard$Ground", "slabs", "[I", true)
  | 2 => ("SlabYard$Ground", "stock", "[I", true)
  | 3 => ("SlabYard$Ground", "todays", "I", false)
  | 4 => ("SlabYard$Ground", "days", "I", false)
  | 5 => ("SlabYard$Ground", "doneWhat", "[I", true)
  | 6 => ("SlabYard$Ground", "doneWhere", "[I", true)
  | 7 => ("SlabYard$Ground", "doneBefore", "[I", true)
  | _ => ("SlabYard$Ground", "done", "I", false)
def tyX0 : Nat → FieldType := fun k => match k with
  | 0 => .array .int
  | 1 => .array .int
  | 2 => .array .int
  | 3 => .int
  | 4 => .int
  | 5 => .array .int
  | 6 => .array .int
  | 7 => .array .int
  | _ => .int
theorem nmX0 : ∀ a, a < 9 → ∀ b, b < 9 → a ≠ b → (TX0 a).2.1 ≠ (TX0 b).2.1 := by decide +kernel
theorem tyX0_ok : ∀ k, k < 9 → parseFieldDescriptor (TX0 k).2.2.1 = some (tyX0 k) := by decide +kernel
abbrev cX0_init : ByteArray := prog_2_method_1_code
def yX0_init : MethodName := ⟨RX0, "<init>", "()V"⟩
abbrev cX0_startOn : ByteArray := prog_2_method_2_code
def yX0_startOn : MethodName := ⟨RX0, "startOn", "(LSlabYard$Plot;)V"⟩
abbrev cX0_copyFrom : ByteArray := prog_2_method_3_code
def yX0_copyFrom : MethodName := ⟨RX0, "copyFrom", "(LSlabYard$Ground;)V"⟩
abbrev cX0_lay : ByteArray := prog_2_method_4_code
def yX0_lay : MethodName := ⟨RX0, "lay", "(II)V"⟩
abbrev cX0_lift : ByteArray := prog_2_method_5_code
def yX0_lift : MethodName := ⟨RX0, "lift", "(I)I"⟩
abbrev cX0_raise : ByteArray := prog_2_method_6_code
def yX0_raise : MethodName := ⟨RX0, "raise", "(II)I"⟩
abbrev cX0_passDay : ByteArray := prog_2_method_7_code
def yX0_passDay : MethodName := ⟨RX0, "passDay", "()V"⟩
abbrev cX0_put : ByteArray := prog_2_method_8_code
def yX0_put : MethodName := ⟨RX0, "put", "(IIZ)V"⟩
abbrev cX0_take : ByteArray := prog_2_method_9_code
def yX0_take : MethodName := ⟨RX0, "take", "(I)V"⟩
abbrev cX0_remember : ByteArray := prog_2_method_10_code
def yX0_remember : MethodName := ⟨RX0, "remember", "(III)V"⟩
abbrev cX0_goBack : ByteArray := prog_2_method_11_code
def yX0_goBack : MethodName := ⟨RX0, "goBack", "()Z"⟩
abbrev cX0_slabOn : ByteArray := prog_2_method_12_code
def yX0_slabOn : MethodName := ⟨RX0, "slabOn", "(I)I"⟩
abbrev cX0_sizeOf : ByteArray := prog_2_method_13_code
def yX0_sizeOf : MethodName := ⟨RX0, "sizeOf", "(I)I"⟩
abbrev cX0_heightOf : ByteArray := prog_2_method_14_code
def yX0_heightOf : MethodName := ⟨RX0, "heightOf", "(I)I"⟩
abbrev cX0_setHeight : ByteArray := prog_2_method_15_code
def yX0_setHeight : MethodName := ⟨RX0, "setHeight", "(II)V"⟩
abbrev cX0_cellsOf : ByteArray := prog_2_method_16_code
def yX0_cellsOf : MethodName := ⟨RX0, "cellsOf", "(I)I"⟩
abbrev cX0_isTodays : ByteArray := prog_2_method_17_code
def yX0_isTodays : MethodName := ⟨RX0, "isTodays", "(I)Z"⟩
abbrev cX0_slabCount : ByteArray := prog_2_method_18_code
def yX0_slabCount : MethodName := ⟨RX0, "slabCount", "()I"⟩
abbrev cX0_covered : ByteArray := prog_2_method_19_code
def yX0_covered : MethodName := ⟨RX0, "covered", "()I"⟩
abbrev cX0_todaysCells : ByteArray := prog_2_method_20_code
def yX0_todaysCells : MethodName := ⟨RX0, "todaysCells", "()I"⟩
abbrev cX0_joined : ByteArray := prog_2_method_21_code
def yX0_joined : MethodName := ⟨RX0, "joined", "([I)I"⟩
abbrev cX0_alikePairs : ByteArray := prog_2_method_22_code
def yX0_alikePairs : MethodName := ⟨RX0, "alikePairs", "()I"⟩
def RX1 : String := "SlabYard$Mender"
def TX1 : u_T := fun k => match k with
  | 0 => ("SlabYard$Mender", "best", "I", false)
  | 1 => ("SlabYard$Mender", "height", "I", false)
  | 2 => ("SlabYard$Mender", "puddlesLeft", "I", false)
  | _ => ("SlabYard$Mender", "change", "I", false)
def tyX1 : Nat → FieldType := fun k => match k with
  | 0 => .int
  | 1 => .int
  | 2 => .int
  | _ => .int
theorem nmX1 : ∀ a, a < 4 → ∀ b, b < 4 → a ≠ b → (TX1 a).2.1 ≠ (TX1 b).2.1 := by decide +kernel
theorem tyX1_ok : ∀ k, k < 4 → parseFieldDescriptor (TX1 k).2.2.1 = some (tyX1 k) := by decide +kernel
abbrev cX1_init : ByteArray := prog_3_method_1_code
def yX1_init : MethodName := ⟨RX1, "<init>", "()V"⟩
abbrev cX1_search : ByteArray := prog_3_method_2_code
def yX1_search : MethodName := ⟨RX1, "search", "(LSlabYard$Water;)V"⟩
abbrev cX1_tryHeights : ByteArray := prog_3_method_3_code
def yX1_tryHeights : MethodName := ⟨RX1, "tryHeights", "(LSlabYard$Water;II)V"⟩
abbrev cX1_weigh : ByteArray := prog_3_method_4_code
def yX1_weigh : MethodName := ⟨RX1, "weigh", "(IIII)V"⟩
def RX2 : String := "SlabYard$Planner"
def TX2 : u_T := fun k => match k with
  | 0 => ("SlabYard$Planner", "fewest", "I", false)
  | 1 => ("SlabYard$Planner", "chosen", "[I", true)
  | 2 => ("SlabYard$Planner", "tried", "[I", true)
  | 3 => ("SlabYard$Planner", "left", "[I", true)
  | 4 => ("SlabYard$Planner", "layable", "I", false)
  | _ => ("SlabYard$Planner", "bound", "I", false)
def tyX2 : Nat → FieldType := fun k => match k with
  | 0 => .int
  | 1 => .array .int
  | 2 => .array .int
  | 3 => .array .int
  | 4 => .int
  | _ => .int
theorem nmX2 : ∀ a, a < 6 → ∀ b, b < 6 → a ≠ b → (TX2 a).2.1 ≠ (TX2 b).2.1 := by decide +kernel
theorem tyX2_ok : ∀ k, k < 6 → parseFieldDescriptor (TX2 k).2.2.1 = some (tyX2 k) := by decide +kernel
abbrev cX2_init : ByteArray := prog_4_method_1_code
def yX2_init : MethodName := ⟨RX2, "<init>", "()V"⟩
abbrev cX2_search : ByteArray := prog_4_method_2_code
def yX2_search : MethodName := ⟨RX2, "search", "(LSlabYard$Plot;LSlabYard$Ground;)V"⟩
abbrev cX2_layRest : ByteArray := prog_4_method_3_code
def yX2_layRest : MethodName := ⟨RX2, "layRest", "(LSlabYard$Planner;IIII)V"⟩
abbrev cX2_settle : ByteArray := prog_4_method_4_code
def yX2_settle : MethodName := ⟨RX2, "settle", "(I)V"⟩
abbrev cX2_leastFor : ByteArray := prog_4_method_5_code
def yX2_leastFor : MethodName := ⟨RX2, "leastFor", "(I)I"⟩
def RX3 : String := "SlabYard$Plot"
def TX3 : u_T := fun k => match k with
  | 0 => ("SlabYard$Plot", "wide", "I", false)
  | 1 => ("SlabYard$Plot", "rows", "I", false)
  | 2 => ("SlabYard$Plot", "door", "I", false)
  | 3 => ("SlabYard$Plot", "lids", "I", false)
  | 4 => ("SlabYard$Plot", "drains", "I", false)
  | 5 => ("SlabYard$Plot", "heights", "[I", true)
  | _ => ("SlabYard$Plot", "stock", "[I", true)
def tyX3 : Nat → FieldType := fun k => match k with
  | 0 => .int
  | 1 => .int
  | 2 => .int
  | 3 => .int
  | 4 => .int
  | 5 => .array .int
  | _ => .array .int
theorem nmX3 : ∀ a, a < 7 → ∀ b, b < 7 → a ≠ b → (TX3 a).2.1 ≠ (TX3 b).2.1 := by decide +kernel
theorem tyX3_ok : ∀ k, k < 7 → parseFieldDescriptor (TX3 k).2.2.1 = some (tyX3 k) := by decide +kernel
abbrev cX3_init : ByteArray := prog_5_method_1_code
def yX3_init : MethodName := ⟨RX3, "<init>", "()V"⟩
abbrev cX3_wipe : ByteArray := prog_5_method_2_code
def yX3_wipe : MethodName := ⟨RX3, "wipe", "()V"⟩
abbrev cX3_copyFrom : ByteArray := prog_5_method_3_code
def yX3_copyFrom : MethodName := ⟨RX3, "copyFrom", "(LSlabYard$Plot;)V"⟩
abbrev cX3_has : ByteArray := prog_5_method_4_code
def yX3_has : MethodName := ⟨RX3, "has", "(II)Z"⟩
abbrev cX3_isOpen : ByteArray := prog_5_method_5_code
def yX3_isOpen : MethodName := ⟨RX3, "isOpen", "(II)Z"⟩
abbrev cX3_cells : ByteArray := prog_5_method_6_code
def yX3_cells : MethodName := ⟨RX3, "cells", "()I"⟩
abbrev cX3_layable : ByteArray := prog_5_method_7_code
def yX3_layable : MethodName := ⟨RX3, "layable", "()I"⟩
abbrev cX3_sortOf : ByteArray := prog_5_method_8_code
def yX3_sortOf : MethodName := ⟨RX3, "sortOf", "(I)I"⟩
def RX4 : String := "SlabYard$Reader"
def TX4 : u_T := fun k => match k with
  | 0 => ("SlabYard$Reader", "bytes", "[I", true)
  | 1 => ("SlabYard$Reader", "length", "I", false)
  | 2 => ("SlabYard$Reader", "told", "LSlabYard$Plot;", true)
  | 3 => ("SlabYard$Reader", "place", "I", false)
  | 4 => ("SlabYard$Reader", "begin", "I", false)
  | 5 => ("SlabYard$Reader", "token", "I", false)
  | 6 => ("SlabYard$Reader", "value", "I", false)
  | 7 => ("SlabYard$Reader", "doorTold", "Z", false)
  | 8 => ("SlabYard$Reader", "stockTold", "Z", false)
  | _ => ("SlabYard$Reader", "rowsEnded", "Z", false)
def tyX4 : Nat → FieldType := fun k => match k with
  | 0 => .array .int
  | 1 => .int
  | 2 => .object "SlabYard$Plot"
  | 3 => .int
  | 4 => .int
  | 5 => .int
  | 6 => .int
  | 7 => .boolean
  | 8 => .boolean
  | _ => .boolean
theorem nmX4 : ∀ a, a < 10 → ∀ b, b < 10 → a ≠ b → (TX4 a).2.1 ≠ (TX4 b).2.1 := by decide +kernel
theorem tyX4_ok : ∀ k, k < 10 → parseFieldDescriptor (TX4 k).2.2.1 = some (tyX4 k) := by decide +kernel
abbrev cX4_init : ByteArray := prog_6_method_1_code
def yX4_init : MethodName := ⟨RX4, "<init>", "()V"⟩
abbrev cX4_take : ByteArray := prog_6_method_2_code
def yX4_take : MethodName := ⟨RX4, "take", "(I)Z"⟩
abbrev cX4_readAll : ByteArray := prog_6_method_3_code
def yX4_readAll : MethodName := ⟨RX4, "readAll", "()I"⟩
abbrev cX4_readTold : ByteArray := prog_6_method_4_code
def yX4_readTold : MethodName := ⟨RX4, "readTold", "(II)Z"⟩
abbrev cX4_readWide : ByteArray := prog_6_method_5_code
def yX4_readWide : MethodName := ⟨RX4, "readWide", "()Z"⟩
abbrev cX4_readRow : ByteArray := prog_6_method_6_code
def yX4_readRow : MethodName := ⟨RX4, "readRow", "()Z"⟩
abbrev cX4_readCell : ByteArray := prog_6_method_7_code
def yX4_readCell : MethodName := ⟨RX4, "readCell", "(I)Z"⟩
abbrev cX4_readStock : ByteArray := prog_6_method_8_code
def yX4_readStock : MethodName := ⟨RX4, "readStock", "()Z"⟩
abbrev cX4_readNumber : ByteArray := prog_6_method_9_code
def yX4_readNumber : MethodName := ⟨RX4, "readNumber", "(II)Z"⟩
abbrev cX4_readToken : ByteArray := prog_6_method_10_code
def yX4_readToken : MethodName := ⟨RX4, "readToken", "()V"⟩
abbrev cX4_sortOf : ByteArray := prog_6_method_11_code
def yX4_sortOf : MethodName := ⟨RX4, "sortOf", "(I)I"⟩
def RX5 : String := "SlabYard$Water"
def TX5 : u_T := fun k => match k with
  | _ => ("SlabYard$Water", "tiers", "[I", true)
def tyX5 : Nat → FieldType := fun k => match k with
  | _ => .array .int
theorem nmX5 : ∀ a, a < 1 → ∀ b, b < 1 → a ≠ b → (TX5 a).2.1 ≠ (TX5 b).2.1 := by decide +kernel
theorem tyX5_ok : ∀ k, k < 1 → parseFieldDescriptor (TX5 k).2.2.1 = some (tyX5 k) := by decide +kernel
abbrev cX5_init : ByteArray := prog_7_method_1_code
def yX5_init : MethodName := ⟨RX5, "<init>", "()V"⟩
abbrev cX5_fill : ByteArray := prog_7_method_2_code
def yX5_fill : MethodName := ⟨RX5, "fill", "(LSlabYard$Plot;LSlabYard$Ground;)V"⟩
abbrev cX5_tierOf : ByteArray := prog_7_method_3_code
def yX5_tierOf : MethodName := ⟨RX5, "tierOf", "(I)I"⟩
abbrev cX5_onward : ByteArray := prog_7_method_4_code
def yX5_onward : MethodName := ⟨RX5, "onward", "(I)I"⟩
abbrev cX5_firstAround : ByteArray := prog_7_method_5_code
def yX5_firstAround : MethodName := ⟨RX5, "firstAround", "(II)I"⟩
abbrev cX5_endOf : ByteArray := prog_7_method_6_code
def yX5_endOf : MethodName := ⟨RX5, "endOf", "(I)I"⟩
abbrev cX5_wayOf : ByteArray := prog_7_method_7_code
def yX5_wayOf : MethodName := ⟨RX5, "wayOf", "(I)I"⟩
abbrev cX5_puddles : ByteArray := prog_7_method_8_code
def yX5_puddles : MethodName := ⟨RX5, "puddles", "()I"⟩
def RX6 : String := "SlabYard"
def TX6 : u_T := fun k => match k with
  | 0 => ("SlabYard", "reader", "LSlabYard$Reader;", true)
  | 1 => ("SlabYard", "plot", "LSlabYard$Plot;", true)
  | 2 => ("SlabYard", "ground", "LSlabYard$Ground;", true)
  | 3 => ("SlabYard", "firstImage", "LSlabYard$Ground;", true)
  | 4 => ("SlabYard", "secondImage", "LSlabYard$Ground;", true)
  | 5 => ("SlabYard", "water", "LSlabYard$Water;", true)
  | 6 => ("SlabYard", "mender", "LSlabYard$Mender;", true)
  | 7 => ("SlabYard", "planner", "LSlabYard$Planner;", true)
  | 8 => ("SlabYard", "keptImages", "I", false)
  | 9 => ("SlabYard", "seenCells", "I", false)
  | 10 => ("SlabYard", "seenCount", "I", false)
  | _ => ("SlabYard", "traced", "J", false)
def tyX6 : Nat → FieldType := fun k => match k with
  | 0 => .object "SlabYard$Reader"
  | 1 => .object "SlabYard$Plot"
  | 2 => .object "SlabYard$Ground"
  | 3 => .object "SlabYard$Ground"
  | 4 => .object "SlabYard$Ground"
  | 5 => .object "SlabYard$Water"
  | 6 => .object "SlabYard$Mender"
  | 7 => .object "SlabYard$Planner"
  | 8 => .int
  | 9 => .int
  | 10 => .int
  | _ => .long
theorem nmX6 : ∀ a, a < 12 → ∀ b, b < 12 → a ≠ b → (TX6 a).2.1 ≠ (TX6 b).2.1 := by decide +kernel
theorem tyX6_ok : ∀ k, k < 12 → parseFieldDescriptor (TX6 k).2.2.1 = some (tyX6 k) := by decide +kernel
abbrev cX6_init : ByteArray := prog_1_method_1_code
def yX6_init : MethodName := ⟨RX6, "<init>", "()V"⟩
abbrev cX6_type : ByteArray := prog_1_method_2_code
def yX6_type : MethodName := ⟨RX6, "type", "(I)I"⟩
abbrev cX6_yard : ByteArray := prog_1_method_4_code
def yX6_yard : MethodName := ⟨RX6, "yard", "()I"⟩
abbrev cX6_cell : ByteArray := prog_1_method_5_code
def yX6_cell : MethodName := ⟨RX6, "cell", "(III)I"⟩
abbrev cX6_lays : ByteArray := prog_1_method_6_code
def yX6_lays : MethodName := ⟨RX6, "lays", "(III)I"⟩
abbrev cX6_lifts : ByteArray := prog_1_method_7_code
def yX6_lifts : MethodName := ⟨RX6, "lifts", "(II)I"⟩
abbrev cX6_raises : ByteArray := prog_1_method_8_code
def yX6_raises : MethodName := ⟨RX6, "raises", "(III)I"⟩
abbrev cX6_day : ByteArray := prog_1_method_9_code
def yX6_day : MethodName := ⟨RX6, "day", "()I"⟩
abbrev cX6_undo : ByteArray := prog_1_method_10_code
def yX6_undo : MethodName := ⟨RX6, "undo", "()I"⟩
abbrev cX6_now : ByteArray := prog_1_method_11_code
def yX6_now : MethodName := ⟨RX6, "now", "(I)I"⟩
abbrev cX6_stock : ByteArray := prog_1_method_12_code
def yX6_stock : MethodName := ⟨RX6, "stock", "(I)I"⟩
abbrev cX6_drop : ByteArray := prog_1_method_13_code
def yX6_drop : MethodName := ⟨RX6, "drop", "(III)I"⟩
abbrev cX6_feeds : ByteArray := prog_1_method_14_code
def yX6_feeds : MethodName := ⟨RX6, "feeds", "(II)I"⟩
abbrev cX6_mend : ByteArray := prog_1_method_15_code
def yX6_mend : MethodName := ⟨RX6, "mend", "(I)I"⟩
abbrev cX6_plan : ByteArray := prog_1_method_16_code
def yX6_plan : MethodName := ⟨RX6, "plan", "(I)I"⟩
abbrev cX6_barrow : ByteArray := prog_1_method_17_code
def yX6_barrow : MethodName := ⟨RX6, "barrow", "(II)I"⟩
abbrev cX6_odds : ByteArray := prog_1_method_18_code
def yX6_odds : MethodName := ⟨RX6, "odds", "(IIII)I"⟩
abbrev cX6_saw : ByteArray := prog_1_method_19_code
def yX6_saw : MethodName := ⟨RX6, "saw", "(II)I"⟩
abbrev cX6_forget : ByteArray := prog_1_method_20_code
def yX6_forget : MethodName := ⟨RX6, "forget", "()I"⟩
abbrev cX6_from : ByteArray := prog_1_method_21_code
def yX6_from : MethodName := ⟨RX6, "from", "()I"⟩
abbrev cX6_mark : ByteArray := prog_1_method_22_code
def yX6_mark : MethodName := ⟨RX6, "mark", "(III)I"⟩
abbrev cX6_keep : ByteArray := prog_1_method_23_code
def yX6_keep : MethodName := ⟨RX6, "keep", "(I)I"⟩
abbrev cX6_back : ByteArray := prog_1_method_24_code
def yX6_back : MethodName := ⟨RX6, "back", "(I)I"⟩
abbrev cX6_count : ByteArray := prog_1_method_25_code
def yX6_count : MethodName := ⟨RX6, "count", "(I)I"⟩
abbrev cX6_trace : ByteArray := prog_1_method_26_code
def yX6_trace : MethodName := ⟨RX6, "trace", "()J"⟩
abbrev cX6_markCell : ByteArray := prog_1_method_27_code
def yX6_markCell : MethodName := ⟨RX6, "markCell", "(I)I"⟩
abbrev cX6_markTrue : ByteArray := prog_1_method_28_code
def yX6_markTrue : MethodName := ⟨RX6, "markTrue", "(I)I"⟩
abbrev cX6_markLow : ByteArray := prog_1_method_29_code
def yX6_markLow : MethodName := ⟨RX6, "markLow", "(I)I"⟩
abbrev cX6_markRocking : ByteArray := prog_1_method_30_code
def yX6_markRocking : MethodName := ⟨RX6, "markRocking", "(I)I"⟩
abbrev cX6_markCut : ByteArray := prog_1_method_31_code
def yX6_markCut : MethodName := ⟨RX6, "markCut", "(I)I"⟩
abbrev cX6_markWet : ByteArray := prog_1_method_32_code
def yX6_markWet : MethodName := ⟨RX6, "markWet", "(I)I"⟩
abbrev cX6_imageOf : ByteArray := prog_1_method_33_code
def yX6_imageOf : MethodName := ⟨RX6, "imageOf", "(I)LSlabYard$Ground;"⟩
abbrev cX6_freeCells : ByteArray := prog_1_method_34_code
def yX6_freeCells : MethodName := ⟨RX6, "freeCells", "()I"⟩
abbrev cX6_numberOf : ByteArray := prog_1_method_35_code
def yX6_numberOf : MethodName := ⟨RX6, "numberOf", "(II)I"⟩
abbrev cX6_holds : ByteArray := prog_1_method_36_code
def yX6_holds : MethodName := ⟨RX6, "holds", "(II)Z"⟩
abbrev cX6_beside : ByteArray := prog_1_method_37_code
def yX6_beside : MethodName := ⟨RX6, "beside", "(I)I"⟩
abbrev cX6_isSize : ByteArray := prog_1_method_38_code
def yX6_isSize : MethodName := ⟨RX6, "isSize", "(I)Z"⟩
abbrev cX6_isNumber : ByteArray := prog_1_method_39_code
def yX6_isNumber : MethodName := ⟨RX6, "isNumber", "(I)Z"⟩
abbrev cX6_bitsAt : ByteArray := prog_1_method_40_code
def yX6_bitsAt : MethodName := ⟨RX6, "bitsAt", "([III)I"⟩
abbrev cX6_fits : ByteArray := prog_1_method_41_code
def yX6_fits : MethodName := ⟨RX6, "fits", "(III)Z"⟩
abbrev cX6_crossPoints : ByteArray := prog_1_method_42_code
def yX6_crossPoints : MethodName := ⟨RX6, "crossPoints", "(III)I"⟩
abbrev cX6_longestSeam : ByteArray := prog_1_method_43_code
def yX6_longestSeam : MethodName := ⟨RX6, "longestSeam", "(III)I"⟩
abbrev cX6_power : ByteArray := prog_1_method_44_code
def yX6_power : MethodName := ⟨RX6, "power", "(II)I"⟩
abbrev cX6_choices : ByteArray := prog_1_method_45_code
def yX6_choices : MethodName := ⟨RX6, "choices", "(II)I"⟩
abbrev cX6_commonDivisor : ByteArray := prog_1_method_46_code
def yX6_commonDivisor : MethodName := ⟨RX6, "commonDivisor", "(II)I"⟩
def RX7 : String := "SlabYardModel"
def TX7 : u_T := fun k => match k with
  | _ => ("", "", "", false)
def tyX7 : Nat → FieldType := fun k => match k with
  | _ => .int
theorem nmX7 : ∀ a, a < 0 → ∀ b, b < 0 → a ≠ b → (TX7 a).2.1 ≠ (TX7 b).2.1 := by decide +kernel
theorem tyX7_ok : ∀ k, k < 0 → parseFieldDescriptor (TX7 k).2.2.1 = some (tyX7 k) := by decide +kernel
def RJ6 : String := "java/lang/Integer"
def TJ6 : u_T := fun k => match k with
  | _ => ("", "", "", false)
def tyJ6 : Nat → FieldType := fun k => match k with
  | _ => .int
abbrev cJ6_bitCount_0f7a4 : ByteArray := prog_10_method_49_code
def yJ6_bitCount_0f7a4 : MethodName := ⟨RJ6, "bitCount", "(I)I"⟩
def RJ9 : String := "java/lang/Math"
def TJ9 : u_T := fun k => match k with
  | _ => ("", "", "", false)
def tyJ9 : Nat → FieldType := fun k => match k with
  | _ => .int
abbrev cJ9_abs_0f7a4 : ByteArray := prog_11_method_59_code
def yJ9_abs_0f7a4 : MethodName := ⟨RJ9, "abs", "(I)I"⟩
abbrev cJ9_min_7cf53 : ByteArray := prog_11_method_69_code
def yJ9_min_7cf53 : MethodName := ⟨RJ9, "min", "(II)I"⟩
def RL : String := "SlabYardLaw"
abbrev cL_cell : ByteArray := method_2_code
def yL_cell : MethodName := ⟨RL, "cell", "([II)I"⟩
abbrev cL_low : ByteArray := method_3_code
def yL_low : MethodName := ⟨RL, "low", "(II)I"⟩
abbrev cL_refused : ByteArray := method_4_code
def yL_refused : MethodName := ⟨RL, "refused", "(LSlabYard;I)Z"⟩
abbrev cL_yard : ByteArray := method_5_code
def yL_yard : MethodName := ⟨RL, "yard", "(LSlabYard;)Z"⟩
abbrev cL_turn : ByteArray := method_6_code
def yL_turn : MethodName := ⟨RL, "turn", "(LSlabYard;I)I"⟩
abbrev cL_same : ByteArray := method_7_code
def yL_same : MethodName := ⟨RL, "same", "(LSlabYard;LSlabYard;)Z"⟩
abbrev cL_law : ByteArray := code
def yL_law : MethodName := ⟨RL, "law", "([I)Z"⟩
abbrev vwCl : List vw_C := [(RX0, TX0, 9), (RX1, TX1, 4), (RX2, TX2, 6), (RX3, TX3, 7), (RX4, TX4, 10), (RX5, TX5, 1), (RX6, TX6, 12)]
